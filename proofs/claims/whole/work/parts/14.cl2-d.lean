theorem dFI_tell_0 : decode b_FI_tell 0 = .ok (.aload_n 0, 1) ∧ 0 + 1 = 1 := ⟨by decide +kernel, rfl⟩
theorem dFI_tell_1 : decode b_FI_tell 1 = .ok (.iload_n 2, 1) ∧ 1 + 1 = 2 := ⟨by decide +kernel, rfl⟩
theorem dFI_tell_2 : decode b_FI_tell 2 = .ok (.putfield 9, 3) ∧ 2 + 3 = 5 := ⟨by decide +kernel, rfl⟩
theorem dFI_tell_5 : decode b_FI_tell 5 = .ok (.iload_n 1, 1) ∧ 5 + 1 = 6 := ⟨by decide +kernel, rfl⟩
theorem dFI_tell_6 : decode b_FI_tell 6 = .ok (.ireturn, 1) ∧ 6 + 1 = 7 := ⟨by decide +kernel, rfl⟩
theorem dDI_markFault_0 : decode b_DI_markFault 0 = .ok (.aload_n 0, 1) ∧ 0 + 1 = 1 := ⟨by decide +kernel, rfl⟩
theorem dDI_markFault_1 : decode b_DI_markFault 1 = .ok (.getfield 27, 3) ∧ 1 + 3 = 4 := ⟨by decide +kernel, rfl⟩
theorem dDI_markFault_4 : decode b_DI_markFault 4 = .ok (.getfield 85, 3) ∧ 4 + 3 = 7 := ⟨by decide +kernel, rfl⟩
theorem dDI_markFault_7 : decode b_DI_markFault 7 = .ok (.bipush (52), 2) ∧ 7 + 2 = 9 := ⟨by decide +kernel, rfl⟩
theorem dDI_markFault_9 : decode b_DI_markFault 9 = .ok (.if_icmp .ge (19), 3) ∧ 9 + 3 = 12 ∧ ((9 : Nat) : Int) + (19) = ((28 : Nat) : Int) := ⟨by decide +kernel, rfl, by decide⟩
theorem dDI_markFault_12 : decode b_DI_markFault 12 = .ok (.aload_n 0, 1) ∧ 12 + 1 = 13 := ⟨by decide +kernel, rfl⟩
theorem dDI_markFault_13 : decode b_DI_markFault 13 = .ok (.getfield 31, 3) ∧ 13 + 3 = 16 := ⟨by decide +kernel, rfl⟩
theorem dDI_markFault_16 : decode b_DI_markFault 16 = .ok (.iconst 1, 1) ∧ 16 + 1 = 17 := ⟨by decide +kernel, rfl⟩
theorem dDI_markFault_17 : decode b_DI_markFault 17 = .ok (.aload_n 0, 1) ∧ 17 + 1 = 18 := ⟨by decide +kernel, rfl⟩
theorem dDI_markFault_18 : decode b_DI_markFault 18 = .ok (.getfield 27, 3) ∧ 18 + 3 = 21 := ⟨by decide +kernel, rfl⟩
theorem dDI_markFault_21 : decode b_DI_markFault 21 = .ok (.getfield 85, 3) ∧ 21 + 3 = 24 := ⟨by decide +kernel, rfl⟩
theorem dDI_markFault_24 : decode b_DI_markFault 24 = .ok (.invokevirtual 45, 3) ∧ 24 + 3 = 27 := ⟨by decide +kernel, rfl⟩
theorem dDI_markFault_27 : decode b_DI_markFault 27 = .ok (.ireturn, 1) ∧ 27 + 1 = 28 := ⟨by decide +kernel, rfl⟩
theorem dDI_markFault_28 : decode b_DI_markFault 28 = .ok (.iconst 0, 1) ∧ 28 + 1 = 29 := ⟨by decide +kernel, rfl⟩
theorem dDI_markFault_29 : decode b_DI_markFault 29 = .ok (.istore_n 1, 1) ∧ 29 + 1 = 30 := ⟨by decide +kernel, rfl⟩
theorem dDI_markFault_30 : decode b_DI_markFault 30 = .ok (.iload_n 1, 1) ∧ 30 + 1 = 31 := ⟨by decide +kernel, rfl⟩
theorem dDI_markFault_31 : decode b_DI_markFault 31 = .ok (.getstatic 88, 3) ∧ 31 + 3 = 34 := ⟨by decide +kernel, rfl⟩
theorem dDI_markFault_34 : decode b_DI_markFault 34 = .ok (.arraylength, 1) ∧ 34 + 1 = 35 := ⟨by decide +kernel, rfl⟩
theorem dDI_markFault_35 : decode b_DI_markFault 35 = .ok (.if_icmp .ge (35), 3) ∧ 35 + 3 = 38 ∧ ((35 : Nat) : Int) + (35) = ((70 : Nat) : Int) := ⟨by decide +kernel, rfl, by decide⟩
theorem dDI_markFault_38 : decode b_DI_markFault 38 = .ok (.aload_n 0, 1) ∧ 38 + 1 = 39 := ⟨by decide +kernel, rfl⟩
theorem dDI_markFault_39 : decode b_DI_markFault 39 = .ok (.getfield 27, 3) ∧ 39 + 3 = 42 := ⟨by decide +kernel, rfl⟩
theorem dDI_markFault_42 : decode b_DI_markFault 42 = .ok (.iload_n 1, 1) ∧ 42 + 1 = 43 := ⟨by decide +kernel, rfl⟩
theorem dDI_markFault_43 : decode b_DI_markFault 43 = .ok (.invokevirtual 91, 3) ∧ 43 + 3 = 46 := ⟨by decide +kernel, rfl⟩
theorem dDI_markFault_46 : decode b_DI_markFault 46 = .ok (.getstatic 88, 3) ∧ 46 + 3 = 49 := ⟨by decide +kernel, rfl⟩
theorem dDI_markFault_49 : decode b_DI_markFault 49 = .ok (.iload_n 1, 1) ∧ 49 + 1 = 50 := ⟨by decide +kernel, rfl⟩
theorem dDI_markFault_50 : decode b_DI_markFault 50 = .ok (.iaload, 1) ∧ 50 + 1 = 51 := ⟨by decide +kernel, rfl⟩
theorem dDI_markFault_51 : decode b_DI_markFault 51 = .ok (.if_icmp .eq (13), 3) ∧ 51 + 3 = 54 ∧ ((51 : Nat) : Int) + (13) = ((64 : Nat) : Int) := ⟨by decide +kernel, rfl, by decide⟩
theorem dDI_markFault_54 : decode b_DI_markFault 54 = .ok (.aload_n 0, 1) ∧ 54 + 1 = 55 := ⟨by decide +kernel, rfl⟩
theorem dDI_markFault_55 : decode b_DI_markFault 55 = .ok (.getfield 31, 3) ∧ 55 + 3 = 58 := ⟨by decide +kernel, rfl⟩
theorem dDI_markFault_58 : decode b_DI_markFault 58 = .ok (.iconst 2, 1) ∧ 58 + 1 = 59 := ⟨by decide +kernel, rfl⟩
theorem dDI_markFault_59 : decode b_DI_markFault 59 = .ok (.iload_n 1, 1) ∧ 59 + 1 = 60 := ⟨by decide +kernel, rfl⟩
theorem dDI_markFault_60 : decode b_DI_markFault 60 = .ok (.invokevirtual 45, 3) ∧ 60 + 3 = 63 := ⟨by decide +kernel, rfl⟩
theorem dDI_markFault_63 : decode b_DI_markFault 63 = .ok (.ireturn, 1) ∧ 63 + 1 = 64 := ⟨by decide +kernel, rfl⟩
theorem dDI_markFault_64 : decode b_DI_markFault 64 = .ok (.iinc 1 (1), 3) ∧ 64 + 3 = 67 := ⟨by decide +kernel, rfl⟩
theorem dDI_markFault_67 : decode b_DI_markFault 67 = .ok (.goto (-37), 3) ∧ 67 + 3 = 70 ∧ ((67 : Nat) : Int) + (-37) = ((30 : Nat) : Int) := ⟨by decide +kernel, rfl, by decide⟩
theorem dDI_markFault_70 : decode b_DI_markFault 70 = .ok (.iconst 4, 1) ∧ 70 + 1 = 71 := ⟨by decide +kernel, rfl⟩
theorem dDI_markFault_71 : decode b_DI_markFault 71 = .ok (.istore_n 1, 1) ∧ 71 + 1 = 72 := ⟨by decide +kernel, rfl⟩
theorem dDI_markFault_72 : decode b_DI_markFault 72 = .ok (.iload_n 1, 1) ∧ 72 + 1 = 73 := ⟨by decide +kernel, rfl⟩
theorem dDI_markFault_73 : decode b_DI_markFault 73 = .ok (.bipush (6), 2) ∧ 73 + 2 = 75 := ⟨by decide +kernel, rfl⟩
theorem dDI_markFault_75 : decode b_DI_markFault 75 = .ok (.if_icmp .gt (33), 3) ∧ 75 + 3 = 78 ∧ ((75 : Nat) : Int) + (33) = ((108 : Nat) : Int) := ⟨by decide +kernel, rfl, by decide⟩
theorem dDI_markFault_78 : decode b_DI_markFault 78 = .ok (.aload_n 0, 1) ∧ 78 + 1 = 79 := ⟨by decide +kernel, rfl⟩
theorem dDI_markFault_79 : decode b_DI_markFault 79 = .ok (.getfield 27, 3) ∧ 79 + 3 = 82 := ⟨by decide +kernel, rfl⟩
theorem dDI_markFault_82 : decode b_DI_markFault 82 = .ok (.iload_n 1, 1) ∧ 82 + 1 = 83 := ⟨by decide +kernel, rfl⟩
theorem dDI_markFault_83 : decode b_DI_markFault 83 = .ok (.invokevirtual 91, 3) ∧ 83 + 3 = 86 := ⟨by decide +kernel, rfl⟩
theorem dDI_markFault_86 : decode b_DI_markFault 86 = .ok (.iconst 1, 1) ∧ 86 + 1 = 87 := ⟨by decide +kernel, rfl⟩
theorem dDI_markFault_87 : decode b_DI_markFault 87 = .ok (.if_icmp .eq (15), 3) ∧ 87 + 3 = 90 ∧ ((87 : Nat) : Int) + (15) = ((102 : Nat) : Int) := ⟨by decide +kernel, rfl, by decide⟩
theorem dDI_markFault_90 : decode b_DI_markFault 90 = .ok (.aload_n 0, 1) ∧ 90 + 1 = 91 := ⟨by decide +kernel, rfl⟩
theorem dDI_markFault_91 : decode b_DI_markFault 91 = .ok (.getfield 31, 3) ∧ 91 + 3 = 94 := ⟨by decide +kernel, rfl⟩
theorem dDI_markFault_94 : decode b_DI_markFault 94 = .ok (.iload_n 1, 1) ∧ 94 + 1 = 95 := ⟨by decide +kernel, rfl⟩
theorem dDI_markFault_95 : decode b_DI_markFault 95 = .ok (.iconst 1, 1) ∧ 95 + 1 = 96 := ⟨by decide +kernel, rfl⟩
theorem dDI_markFault_96 : decode b_DI_markFault 96 = .ok (.isub, 1) ∧ 96 + 1 = 97 := ⟨by decide +kernel, rfl⟩
theorem dDI_markFault_97 : decode b_DI_markFault 97 = .ok (.iload_n 1, 1) ∧ 97 + 1 = 98 := ⟨by decide +kernel, rfl⟩
theorem dDI_markFault_98 : decode b_DI_markFault 98 = .ok (.invokevirtual 45, 3) ∧ 98 + 3 = 101 := ⟨by decide +kernel, rfl⟩
theorem dDI_markFault_101 : decode b_DI_markFault 101 = .ok (.ireturn, 1) ∧ 101 + 1 = 102 := ⟨by decide +kernel, rfl⟩
theorem dDI_markFault_102 : decode b_DI_markFault 102 = .ok (.iinc 1 (1), 3) ∧ 102 + 3 = 105 := ⟨by decide +kernel, rfl⟩
theorem dDI_markFault_105 : decode b_DI_markFault 105 = .ok (.goto (-33), 3) ∧ 105 + 3 = 108 ∧ ((105 : Nat) : Int) + (-33) = ((72 : Nat) : Int) := ⟨by decide +kernel, rfl, by decide⟩
theorem dDI_markFault_108 : decode b_DI_markFault 108 = .ok (.bipush (7), 2) ∧ 108 + 2 = 110 := ⟨by decide +kernel, rfl⟩
theorem dDI_markFault_110 : decode b_DI_markFault 110 = .ok (.istore_n 1, 1) ∧ 110 + 1 = 111 := ⟨by decide +kernel, rfl⟩
theorem dDI_markFault_111 : decode b_DI_markFault 111 = .ok (.iload_n 1, 1) ∧ 111 + 1 = 112 := ⟨by decide +kernel, rfl⟩
theorem dDI_markFault_112 : decode b_DI_markFault 112 = .ok (.bipush (15), 2) ∧ 112 + 2 = 114 := ⟨by decide +kernel, rfl⟩
theorem dDI_markFault_114 : decode b_DI_markFault 114 = .ok (.if_icmp .gt (31), 3) ∧ 114 + 3 = 117 ∧ ((114 : Nat) : Int) + (31) = ((145 : Nat) : Int) := ⟨by decide +kernel, rfl, by decide⟩
theorem dDI_markFault_117 : decode b_DI_markFault 117 = .ok (.aload_n 0, 1) ∧ 117 + 1 = 118 := ⟨by decide +kernel, rfl⟩
theorem dDI_markFault_118 : decode b_DI_markFault 118 = .ok (.getfield 27, 3) ∧ 118 + 3 = 121 := ⟨by decide +kernel, rfl⟩
theorem dDI_markFault_121 : decode b_DI_markFault 121 = .ok (.iload_n 1, 1) ∧ 121 + 1 = 122 := ⟨by decide +kernel, rfl⟩
theorem dDI_markFault_122 : decode b_DI_markFault 122 = .ok (.invokevirtual 91, 3) ∧ 122 + 3 = 125 := ⟨by decide +kernel, rfl⟩
theorem dDI_markFault_125 : decode b_DI_markFault 125 = .ok (.ifCond .eq (14), 3) ∧ 125 + 3 = 128 ∧ ((125 : Nat) : Int) + (14) = ((139 : Nat) : Int) := ⟨by decide +kernel, rfl, by decide⟩
theorem dDI_markFault_128 : decode b_DI_markFault 128 = .ok (.aload_n 0, 1) ∧ 128 + 1 = 129 := ⟨by decide +kernel, rfl⟩
theorem dDI_markFault_129 : decode b_DI_markFault 129 = .ok (.getfield 31, 3) ∧ 129 + 3 = 132 := ⟨by decide +kernel, rfl⟩
theorem dDI_markFault_132 : decode b_DI_markFault 132 = .ok (.bipush (6), 2) ∧ 132 + 2 = 134 := ⟨by decide +kernel, rfl⟩
theorem dDI_markFault_134 : decode b_DI_markFault 134 = .ok (.iload_n 1, 1) ∧ 134 + 1 = 135 := ⟨by decide +kernel, rfl⟩
theorem dDI_markFault_135 : decode b_DI_markFault 135 = .ok (.invokevirtual 45, 3) ∧ 135 + 3 = 138 := ⟨by decide +kernel, rfl⟩
theorem dDI_markFault_138 : decode b_DI_markFault 138 = .ok (.ireturn, 1) ∧ 138 + 1 = 139 := ⟨by decide +kernel, rfl⟩
theorem dDI_markFault_139 : decode b_DI_markFault 139 = .ok (.iinc 1 (1), 3) ∧ 139 + 3 = 142 := ⟨by decide +kernel, rfl⟩
theorem dDI_markFault_142 : decode b_DI_markFault 142 = .ok (.goto (-31), 3) ∧ 142 + 3 = 145 ∧ ((142 : Nat) : Int) + (-31) = ((111 : Nat) : Int) := ⟨by decide +kernel, rfl, by decide⟩
theorem dDI_markFault_145 : decode b_DI_markFault 145 = .ok (.aload_n 0, 1) ∧ 145 + 1 = 146 := ⟨by decide +kernel, rfl⟩
theorem dDI_markFault_146 : decode b_DI_markFault 146 = .ok (.getfield 27, 3) ∧ 146 + 3 = 149 := ⟨by decide +kernel, rfl⟩
theorem dDI_markFault_149 : decode b_DI_markFault 149 = .ok (.bipush (16), 2) ∧ 149 + 2 = 151 := ⟨by decide +kernel, rfl⟩
theorem dDI_markFault_151 : decode b_DI_markFault 151 = .ok (.invokevirtual 95, 3) ∧ 151 + 3 = 154 := ⟨by decide +kernel, rfl⟩
theorem dDI_markFault_154 : decode b_DI_markFault 154 = .ok (.iconst 1, 1) ∧ 154 + 1 = 155 := ⟨by decide +kernel, rfl⟩
theorem dDI_markFault_155 : decode b_DI_markFault 155 = .ok (.if_icmp .eq (15), 3) ∧ 155 + 3 = 158 ∧ ((155 : Nat) : Int) + (15) = ((170 : Nat) : Int) := ⟨by decide +kernel, rfl, by decide⟩
theorem dDI_markFault_158 : decode b_DI_markFault 158 = .ok (.aload_n 0, 1) ∧ 158 + 1 = 159 := ⟨by decide +kernel, rfl⟩
theorem dDI_markFault_159 : decode b_DI_markFault 159 = .ok (.getfield 31, 3) ∧ 159 + 3 = 162 := ⟨by decide +kernel, rfl⟩
theorem dDI_markFault_162 : decode b_DI_markFault 162 = .ok (.bipush (7), 2) ∧ 162 + 2 = 164 := ⟨by decide +kernel, rfl⟩
theorem dDI_markFault_164 : decode b_DI_markFault 164 = .ok (.bipush (16), 2) ∧ 164 + 2 = 166 := ⟨by decide +kernel, rfl⟩
theorem dDI_markFault_166 : decode b_DI_markFault 166 = .ok (.invokevirtual 45, 3) ∧ 166 + 3 = 169 := ⟨by decide +kernel, rfl⟩
theorem dDI_markFault_169 : decode b_DI_markFault 169 = .ok (.ireturn, 1) ∧ 169 + 1 = 170 := ⟨by decide +kernel, rfl⟩
theorem dDI_markFault_170 : decode b_DI_markFault 170 = .ok (.aload_n 0, 1) ∧ 170 + 1 = 171 := ⟨by decide +kernel, rfl⟩
theorem dDI_markFault_171 : decode b_DI_markFault 171 = .ok (.getfield 27, 3) ∧ 171 + 3 = 174 := ⟨by decide +kernel, rfl⟩
theorem dDI_markFault_174 : decode b_DI_markFault 174 = .ok (.bipush (18), 2) ∧ 174 + 2 = 176 := ⟨by decide +kernel, rfl⟩
theorem dDI_markFault_176 : decode b_DI_markFault 176 = .ok (.invokevirtual 95, 3) ∧ 176 + 3 = 179 := ⟨by decide +kernel, rfl⟩
theorem dDI_markFault_179 : decode b_DI_markFault 179 = .ok (.sipush (243), 3) ∧ 179 + 3 = 182 := ⟨by decide +kernel, rfl⟩
theorem dDI_markFault_182 : decode b_DI_markFault 182 = .ok (.if_icmp .eq (17), 3) ∧ 182 + 3 = 185 ∧ ((182 : Nat) : Int) + (17) = ((199 : Nat) : Int) := ⟨by decide +kernel, rfl, by decide⟩
theorem dDI_markFault_185 : decode b_DI_markFault 185 = .ok (.aload_n 0, 1) ∧ 185 + 1 = 186 := ⟨by decide +kernel, rfl⟩
theorem dDI_markFault_186 : decode b_DI_markFault 186 = .ok (.getfield 31, 3) ∧ 186 + 3 = 189 := ⟨by decide +kernel, rfl⟩
theorem dDI_markFault_189 : decode b_DI_markFault 189 = .ok (.bipush (8), 2) ∧ 189 + 2 = 191 := ⟨by decide +kernel, rfl⟩
theorem dDI_markFault_191 : decode b_DI_markFault 191 = .ok (.bipush (18), 2) ∧ 191 + 2 = 193 := ⟨by decide +kernel, rfl⟩
theorem dDI_markFault_193 : decode b_DI_markFault 193 = .ok (.invokevirtual 45, 3) ∧ 193 + 3 = 196 := ⟨by decide +kernel, rfl⟩
theorem dDI_markFault_196 : decode b_DI_markFault 196 = .ok (.goto (4), 3) ∧ 196 + 3 = 199 ∧ ((196 : Nat) : Int) + (4) = ((200 : Nat) : Int) := ⟨by decide +kernel, rfl, by decide⟩
theorem dDI_markFault_199 : decode b_DI_markFault 199 = .ok (.iconst 0, 1) ∧ 199 + 1 = 200 := ⟨by decide +kernel, rfl⟩
theorem dDI_markFault_200 : decode b_DI_markFault 200 = .ok (.ireturn, 1) ∧ 200 + 1 = 201 := ⟨by decide +kernel, rfl⟩
theorem dFB_u4_0 : decode b_FB_u4 0 = .ok (.iload_n 1, 1) ∧ 0 + 1 = 1 := ⟨by decide +kernel, rfl⟩
theorem dFB_u4_1 : decode b_FB_u4 1 = .ok (.ifCond .lt (13), 3) ∧ 1 + 3 = 4 ∧ ((1 : Nat) : Int) + (13) = ((14 : Nat) : Int) := ⟨by decide +kernel, rfl, by decide⟩
theorem dFB_u4_4 : decode b_FB_u4 4 = .ok (.iload_n 1, 1) ∧ 4 + 1 = 5 := ⟨by decide +kernel, rfl⟩
theorem dFB_u4_5 : decode b_FB_u4 5 = .ok (.aload_n 0, 1) ∧ 5 + 1 = 6 := ⟨by decide +kernel, rfl⟩
theorem dFB_u4_6 : decode b_FB_u4 6 = .ok (.getfield 15, 3) ∧ 6 + 3 = 9 := ⟨by decide +kernel, rfl⟩
theorem dFB_u4_9 : decode b_FB_u4 9 = .ok (.iconst 3, 1) ∧ 9 + 1 = 10 := ⟨by decide +kernel, rfl⟩
theorem dFB_u4_10 : decode b_FB_u4 10 = .ok (.isub, 1) ∧ 10 + 1 = 11 := ⟨by decide +kernel, rfl⟩
theorem dFB_u4_11 : decode b_FB_u4 11 = .ok (.if_icmp .lt (5), 3) ∧ 11 + 3 = 14 ∧ ((11 : Nat) : Int) + (5) = ((16 : Nat) : Int) := ⟨by decide +kernel, rfl, by decide⟩
theorem dFB_u4_14 : decode b_FB_u4 14 = .ok (.lconst 0, 1) ∧ 14 + 1 = 15 := ⟨by decide +kernel, rfl⟩
theorem dFB_u4_15 : decode b_FB_u4 15 = .ok (.lreturn, 1) ∧ 15 + 1 = 16 := ⟨by decide +kernel, rfl⟩
theorem dFB_u4_16 : decode b_FB_u4 16 = .ok (.aload_n 0, 1) ∧ 16 + 1 = 17 := ⟨by decide +kernel, rfl⟩
theorem dFB_u4_17 : decode b_FB_u4 17 = .ok (.getfield 9, 3) ∧ 17 + 3 = 20 := ⟨by decide +kernel, rfl⟩
theorem dFB_u4_20 : decode b_FB_u4 20 = .ok (.iload_n 1, 1) ∧ 20 + 1 = 21 := ⟨by decide +kernel, rfl⟩
theorem dFB_u4_21 : decode b_FB_u4 21 = .ok (.baload, 1) ∧ 21 + 1 = 22 := ⟨by decide +kernel, rfl⟩
theorem dFB_u4_22 : decode b_FB_u4 22 = .ok (.sipush (255), 3) ∧ 22 + 3 = 25 := ⟨by decide +kernel, rfl⟩
theorem dFB_u4_25 : decode b_FB_u4 25 = .ok (.iand, 1) ∧ 25 + 1 = 26 := ⟨by decide +kernel, rfl⟩
theorem dFB_u4_26 : decode b_FB_u4 26 = .ok (.aload_n 0, 1) ∧ 26 + 1 = 27 := ⟨by decide +kernel, rfl⟩
theorem dFB_u4_27 : decode b_FB_u4 27 = .ok (.getfield 9, 3) ∧ 27 + 3 = 30 := ⟨by decide +kernel, rfl⟩
theorem dFB_u4_30 : decode b_FB_u4 30 = .ok (.iload_n 1, 1) ∧ 30 + 1 = 31 := ⟨by decide +kernel, rfl⟩
theorem dFB_u4_31 : decode b_FB_u4 31 = .ok (.iconst 1, 1) ∧ 31 + 1 = 32 := ⟨by decide +kernel, rfl⟩
theorem dFB_u4_32 : decode b_FB_u4 32 = .ok (.iadd, 1) ∧ 32 + 1 = 33 := ⟨by decide +kernel, rfl⟩
theorem dFB_u4_33 : decode b_FB_u4 33 = .ok (.baload, 1) ∧ 33 + 1 = 34 := ⟨by decide +kernel, rfl⟩
theorem dFB_u4_34 : decode b_FB_u4 34 = .ok (.sipush (255), 3) ∧ 34 + 3 = 37 := ⟨by decide +kernel, rfl⟩
theorem dFB_u4_37 : decode b_FB_u4 37 = .ok (.iand, 1) ∧ 37 + 1 = 38 := ⟨by decide +kernel, rfl⟩
theorem dFB_u4_38 : decode b_FB_u4 38 = .ok (.bipush (8), 2) ∧ 38 + 2 = 40 := ⟨by decide +kernel, rfl⟩
theorem dFB_u4_40 : decode b_FB_u4 40 = .ok (.ishl, 1) ∧ 40 + 1 = 41 := ⟨by decide +kernel, rfl⟩
theorem dFB_u4_41 : decode b_FB_u4 41 = .ok (.ior, 1) ∧ 41 + 1 = 42 := ⟨by decide +kernel, rfl⟩
theorem dFB_u4_42 : decode b_FB_u4 42 = .ok (.istore_n 2, 1) ∧ 42 + 1 = 43 := ⟨by decide +kernel, rfl⟩
theorem dFB_u4_43 : decode b_FB_u4 43 = .ok (.aload_n 0, 1) ∧ 43 + 1 = 44 := ⟨by decide +kernel, rfl⟩
theorem dFB_u4_44 : decode b_FB_u4 44 = .ok (.getfield 9, 3) ∧ 44 + 3 = 47 := ⟨by decide +kernel, rfl⟩
theorem dFB_u4_47 : decode b_FB_u4 47 = .ok (.iload_n 1, 1) ∧ 47 + 1 = 48 := ⟨by decide +kernel, rfl⟩
theorem dFB_u4_48 : decode b_FB_u4 48 = .ok (.iconst 2, 1) ∧ 48 + 1 = 49 := ⟨by decide +kernel, rfl⟩
theorem dFB_u4_49 : decode b_FB_u4 49 = .ok (.iadd, 1) ∧ 49 + 1 = 50 := ⟨by decide +kernel, rfl⟩
theorem dFB_u4_50 : decode b_FB_u4 50 = .ok (.baload, 1) ∧ 50 + 1 = 51 := ⟨by decide +kernel, rfl⟩
theorem dFB_u4_51 : decode b_FB_u4 51 = .ok (.sipush (255), 3) ∧ 51 + 3 = 54 := ⟨by decide +kernel, rfl⟩
theorem dFB_u4_54 : decode b_FB_u4 54 = .ok (.iand, 1) ∧ 54 + 1 = 55 := ⟨by decide +kernel, rfl⟩
theorem dFB_u4_55 : decode b_FB_u4 55 = .ok (.aload_n 0, 1) ∧ 55 + 1 = 56 := ⟨by decide +kernel, rfl⟩
theorem dFB_u4_56 : decode b_FB_u4 56 = .ok (.getfield 9, 3) ∧ 56 + 3 = 59 := ⟨by decide +kernel, rfl⟩
theorem dFB_u4_59 : decode b_FB_u4 59 = .ok (.iload_n 1, 1) ∧ 59 + 1 = 60 := ⟨by decide +kernel, rfl⟩
theorem dFB_u4_60 : decode b_FB_u4 60 = .ok (.iconst 3, 1) ∧ 60 + 1 = 61 := ⟨by decide +kernel, rfl⟩
theorem dFB_u4_61 : decode b_FB_u4 61 = .ok (.iadd, 1) ∧ 61 + 1 = 62 := ⟨by decide +kernel, rfl⟩
theorem dFB_u4_62 : decode b_FB_u4 62 = .ok (.baload, 1) ∧ 62 + 1 = 63 := ⟨by decide +kernel, rfl⟩
theorem dFB_u4_63 : decode b_FB_u4 63 = .ok (.sipush (255), 3) ∧ 63 + 3 = 66 := ⟨by decide +kernel, rfl⟩
theorem dFB_u4_66 : decode b_FB_u4 66 = .ok (.iand, 1) ∧ 66 + 1 = 67 := ⟨by decide +kernel, rfl⟩
theorem dFB_u4_67 : decode b_FB_u4 67 = .ok (.bipush (8), 2) ∧ 67 + 2 = 69 := ⟨by decide +kernel, rfl⟩
theorem dFB_u4_69 : decode b_FB_u4 69 = .ok (.ishl, 1) ∧ 69 + 1 = 70 := ⟨by decide +kernel, rfl⟩
theorem dFB_u4_70 : decode b_FB_u4 70 = .ok (.ior, 1) ∧ 70 + 1 = 71 := ⟨by decide +kernel, rfl⟩
theorem dFB_u4_71 : decode b_FB_u4 71 = .ok (.istore_n 3, 1) ∧ 71 + 1 = 72 := ⟨by decide +kernel, rfl⟩
theorem dFB_u4_72 : decode b_FB_u4 72 = .ok (.iload_n 3, 1) ∧ 72 + 1 = 73 := ⟨by decide +kernel, rfl⟩
theorem dFB_u4_73 : decode b_FB_u4 73 = .ok (.i2l, 1) ∧ 73 + 1 = 74 := ⟨by decide +kernel, rfl⟩
theorem dFB_u4_74 : decode b_FB_u4 74 = .ok (.bipush (16), 2) ∧ 74 + 2 = 76 := ⟨by decide +kernel, rfl⟩
theorem dFB_u4_76 : decode b_FB_u4 76 = .ok (.lshl, 1) ∧ 76 + 1 = 77 := ⟨by decide +kernel, rfl⟩
theorem dFB_u4_77 : decode b_FB_u4 77 = .ok (.iload_n 2, 1) ∧ 77 + 1 = 78 := ⟨by decide +kernel, rfl⟩
theorem dFB_u4_78 : decode b_FB_u4 78 = .ok (.i2l, 1) ∧ 78 + 1 = 79 := ⟨by decide +kernel, rfl⟩
theorem dFB_u4_79 : decode b_FB_u4 79 = .ok (.lor, 1) ∧ 79 + 1 = 80 := ⟨by decide +kernel, rfl⟩
theorem dFB_u4_80 : decode b_FB_u4 80 = .ok (.lreturn, 1) ∧ 80 + 1 = 81 := ⟨by decide +kernel, rfl⟩
theorem dDI_wrongEntryCount_0 : decode b_DI_wrongEntryCount 0 = .ok (.aload_n 0, 1) ∧ 0 + 1 = 1 := ⟨by decide +kernel, rfl⟩
theorem dDI_wrongEntryCount_1 : decode b_DI_wrongEntryCount 1 = .ok (.getfield 27, 3) ∧ 1 + 3 = 4 := ⟨by decide +kernel, rfl⟩
theorem dDI_wrongEntryCount_4 : decode b_DI_wrongEntryCount 4 = .ok (.bipush (48), 2) ∧ 4 + 2 = 6 := ⟨by decide +kernel, rfl⟩
theorem dDI_wrongEntryCount_6 : decode b_DI_wrongEntryCount 6 = .ok (.invokevirtual 95, 3) ∧ 6 + 3 = 9 := ⟨by decide +kernel, rfl⟩
theorem dDI_wrongEntryCount_9 : decode b_DI_wrongEntryCount 9 = .ok (.istore_n 1, 1) ∧ 9 + 1 = 10 := ⟨by decide +kernel, rfl⟩
theorem dDI_wrongEntryCount_10 : decode b_DI_wrongEntryCount 10 = .ok (.iload_n 1, 1) ∧ 10 + 1 = 11 := ⟨by decide +kernel, rfl⟩
theorem dDI_wrongEntryCount_11 : decode b_DI_wrongEntryCount 11 = .ok (.iconst 1, 1) ∧ 11 + 1 = 12 := ⟨by decide +kernel, rfl⟩
theorem dDI_wrongEntryCount_12 : decode b_DI_wrongEntryCount 12 = .ok (.if_icmp .lt (9), 3) ∧ 12 + 3 = 15 ∧ ((12 : Nat) : Int) + (9) = ((21 : Nat) : Int) := ⟨by decide +kernel, rfl, by decide⟩
theorem dDI_wrongEntryCount_15 : decode b_DI_wrongEntryCount 15 = .ok (.iload_n 1, 1) ∧ 15 + 1 = 16 := ⟨by decide +kernel, rfl⟩
theorem dDI_wrongEntryCount_16 : decode b_DI_wrongEntryCount 16 = .ok (.bipush (16), 2) ∧ 16 + 2 = 18 := ⟨by decide +kernel, rfl⟩
theorem dDI_wrongEntryCount_18 : decode b_DI_wrongEntryCount 18 = .ok (.if_icmp .le (6), 3) ∧ 18 + 3 = 21 ∧ ((18 : Nat) : Int) + (6) = ((24 : Nat) : Int) := ⟨by decide +kernel, rfl, by decide⟩
theorem dDI_wrongEntryCount_21 : decode b_DI_wrongEntryCount 21 = .ok (.bipush (48), 2) ∧ 21 + 2 = 23 := ⟨by decide +kernel, rfl⟩
theorem dDI_wrongEntryCount_23 : decode b_DI_wrongEntryCount 23 = .ok (.ireturn, 1) ∧ 23 + 1 = 24 := ⟨by decide +kernel, rfl⟩
theorem dDI_wrongEntryCount_24 : decode b_DI_wrongEntryCount 24 = .ok (.aload_n 0, 1) ∧ 24 + 1 = 25 := ⟨by decide +kernel, rfl⟩
theorem dDI_wrongEntryCount_25 : decode b_DI_wrongEntryCount 25 = .ok (.getfield 27, 3) ∧ 25 + 3 = 28 := ⟨by decide +kernel, rfl⟩
theorem dDI_wrongEntryCount_28 : decode b_DI_wrongEntryCount 28 = .ok (.bipush (50), 2) ∧ 28 + 2 = 30 := ⟨by decide +kernel, rfl⟩
theorem dDI_wrongEntryCount_30 : decode b_DI_wrongEntryCount 30 = .ok (.invokevirtual 95, 3) ∧ 30 + 3 = 33 := ⟨by decide +kernel, rfl⟩
theorem dDI_wrongEntryCount_33 : decode b_DI_wrongEntryCount 33 = .ok (.istore_n 2, 1) ∧ 33 + 1 = 34 := ⟨by decide +kernel, rfl⟩
theorem dDI_wrongEntryCount_34 : decode b_DI_wrongEntryCount 34 = .ok (.iload_n 2, 1) ∧ 34 + 1 = 35 := ⟨by decide +kernel, rfl⟩
theorem dDI_wrongEntryCount_35 : decode b_DI_wrongEntryCount 35 = .ok (.iconst 1, 1) ∧ 35 + 1 = 36 := ⟨by decide +kernel, rfl⟩
theorem dDI_wrongEntryCount_36 : decode b_DI_wrongEntryCount 36 = .ok (.if_icmp .lt (8), 3) ∧ 36 + 3 = 39 ∧ ((36 : Nat) : Int) + (8) = ((44 : Nat) : Int) := ⟨by decide +kernel, rfl, by decide⟩
theorem dDI_wrongEntryCount_39 : decode b_DI_wrongEntryCount 39 = .ok (.iload_n 2, 1) ∧ 39 + 1 = 40 := ⟨by decide +kernel, rfl⟩
theorem dDI_wrongEntryCount_40 : decode b_DI_wrongEntryCount 40 = .ok (.iload_n 1, 1) ∧ 40 + 1 = 41 := ⟨by decide +kernel, rfl⟩
theorem dDI_wrongEntryCount_41 : decode b_DI_wrongEntryCount 41 = .ok (.if_icmp .lt (8), 3) ∧ 41 + 3 = 44 ∧ ((41 : Nat) : Int) + (8) = ((49 : Nat) : Int) := ⟨by decide +kernel, rfl, by decide⟩
theorem dDI_wrongEntryCount_44 : decode b_DI_wrongEntryCount 44 = .ok (.bipush (50), 2) ∧ 44 + 2 = 46 := ⟨by decide +kernel, rfl⟩
theorem dDI_wrongEntryCount_46 : decode b_DI_wrongEntryCount 46 = .ok (.goto (4), 3) ∧ 46 + 3 = 49 ∧ ((46 : Nat) : Int) + (4) = ((50 : Nat) : Int) := ⟨by decide +kernel, rfl, by decide⟩
theorem dDI_wrongEntryCount_49 : decode b_DI_wrongEntryCount 49 = .ok (.iconst (-1), 1) ∧ 49 + 1 = 50 := ⟨by decide +kernel, rfl⟩
theorem dDI_wrongEntryCount_50 : decode b_DI_wrongEntryCount 50 = .ok (.ireturn, 1) ∧ 50 + 1 = 51 := ⟨by decide +kernel, rfl⟩
theorem dDI_wrongHeaderNumber_0 : decode b_DI_wrongHeaderNumber 0 = .ok (.aload_n 0, 1) ∧ 0 + 1 = 1 := ⟨by decide +kernel, rfl⟩
theorem dDI_wrongHeaderNumber_1 : decode b_DI_wrongHeaderNumber 1 = .ok (.getfield 27, 3) ∧ 1 + 3 = 4 := ⟨by decide +kernel, rfl⟩
theorem dDI_wrongHeaderNumber_4 : decode b_DI_wrongHeaderNumber 4 = .ok (.bipush (20), 2) ∧ 4 + 2 = 6 := ⟨by decide +kernel, rfl⟩
theorem dDI_wrongHeaderNumber_6 : decode b_DI_wrongHeaderNumber 6 = .ok (.invokevirtual 39, 3) ∧ 6 + 3 = 9 := ⟨by decide +kernel, rfl⟩
theorem dDI_wrongHeaderNumber_9 : decode b_DI_wrongHeaderNumber 9 = .ok (.lconst 1, 1) ∧ 9 + 1 = 10 := ⟨by decide +kernel, rfl⟩
theorem dDI_wrongHeaderNumber_10 : decode b_DI_wrongHeaderNumber 10 = .ok (.lcmp, 1) ∧ 10 + 1 = 11 := ⟨by decide +kernel, rfl⟩
theorem dDI_wrongHeaderNumber_11 : decode b_DI_wrongHeaderNumber 11 = .ok (.ifCond .eq (6), 3) ∧ 11 + 3 = 14 ∧ ((11 : Nat) : Int) + (6) = ((17 : Nat) : Int) := ⟨by decide +kernel, rfl, by decide⟩
theorem dDI_wrongHeaderNumber_14 : decode b_DI_wrongHeaderNumber 14 = .ok (.bipush (20), 2) ∧ 14 + 2 = 16 := ⟨by decide +kernel, rfl⟩
theorem dDI_wrongHeaderNumber_16 : decode b_DI_wrongHeaderNumber 16 = .ok (.ireturn, 1) ∧ 16 + 1 = 17 := ⟨by decide +kernel, rfl⟩
theorem dDI_wrongHeaderNumber_17 : decode b_DI_wrongHeaderNumber 17 = .ok (.aload_n 0, 1) ∧ 17 + 1 = 18 := ⟨by decide +kernel, rfl⟩
theorem dDI_wrongHeaderNumber_18 : decode b_DI_wrongHeaderNumber 18 = .ok (.getfield 27, 3) ∧ 18 + 3 = 21 := ⟨by decide +kernel, rfl⟩
theorem dDI_wrongHeaderNumber_21 : decode b_DI_wrongHeaderNumber 21 = .ok (.bipush (24), 2) ∧ 21 + 2 = 23 := ⟨by decide +kernel, rfl⟩
theorem dDI_wrongHeaderNumber_23 : decode b_DI_wrongHeaderNumber 23 = .ok (.invokevirtual 39, 3) ∧ 23 + 3 = 26 := ⟨by decide +kernel, rfl⟩
theorem dDI_wrongHeaderNumber_26 : decode b_DI_wrongHeaderNumber 26 = .ok (.lconst 0, 1) ∧ 26 + 1 = 27 := ⟨by decide +kernel, rfl⟩
theorem dDI_wrongHeaderNumber_27 : decode b_DI_wrongHeaderNumber 27 = .ok (.lcmp, 1) ∧ 27 + 1 = 28 := ⟨by decide +kernel, rfl⟩
theorem dDI_wrongHeaderNumber_28 : decode b_DI_wrongHeaderNumber 28 = .ok (.ifCond .eq (6), 3) ∧ 28 + 3 = 31 ∧ ((28 : Nat) : Int) + (6) = ((34 : Nat) : Int) := ⟨by decide +kernel, rfl, by decide⟩
theorem dDI_wrongHeaderNumber_31 : decode b_DI_wrongHeaderNumber 31 = .ok (.bipush (24), 2) ∧ 31 + 2 = 33 := ⟨by decide +kernel, rfl⟩
theorem dDI_wrongHeaderNumber_33 : decode b_DI_wrongHeaderNumber 33 = .ok (.ireturn, 1) ∧ 33 + 1 = 34 := ⟨by decide +kernel, rfl⟩
theorem dDI_wrongHeaderNumber_34 : decode b_DI_wrongHeaderNumber 34 = .ok (.aload_n 0, 1) ∧ 34 + 1 = 35 := ⟨by decide +kernel, rfl⟩
theorem dDI_wrongHeaderNumber_35 : decode b_DI_wrongHeaderNumber 35 = .ok (.getfield 27, 3) ∧ 35 + 3 = 38 := ⟨by decide +kernel, rfl⟩
theorem dDI_wrongHeaderNumber_38 : decode b_DI_wrongHeaderNumber 38 = .ok (.bipush (28), 2) ∧ 38 + 2 = 40 := ⟨by decide +kernel, rfl⟩
theorem dDI_wrongHeaderNumber_40 : decode b_DI_wrongHeaderNumber 40 = .ok (.invokevirtual 39, 3) ∧ 40 + 3 = 43 := ⟨by decide +kernel, rfl⟩
theorem dDI_wrongHeaderNumber_43 : decode b_DI_wrongHeaderNumber 43 = .ok (.lconst 0, 1) ∧ 43 + 1 = 44 := ⟨by decide +kernel, rfl⟩
theorem dDI_wrongHeaderNumber_44 : decode b_DI_wrongHeaderNumber 44 = .ok (.lcmp, 1) ∧ 44 + 1 = 45 := ⟨by decide +kernel, rfl⟩
theorem dDI_wrongHeaderNumber_45 : decode b_DI_wrongHeaderNumber 45 = .ok (.ifCond .eq (6), 3) ∧ 45 + 3 = 48 ∧ ((45 : Nat) : Int) + (6) = ((51 : Nat) : Int) := ⟨by decide +kernel, rfl, by decide⟩
theorem dDI_wrongHeaderNumber_48 : decode b_DI_wrongHeaderNumber 48 = .ok (.bipush (28), 2) ∧ 48 + 2 = 50 := ⟨by decide +kernel, rfl⟩
theorem dDI_wrongHeaderNumber_50 : decode b_DI_wrongHeaderNumber 50 = .ok (.ireturn, 1) ∧ 50 + 1 = 51 := ⟨by decide +kernel, rfl⟩
theorem dDI_wrongHeaderNumber_51 : decode b_DI_wrongHeaderNumber 51 = .ok (.aload_n 0, 1) ∧ 51 + 1 = 52 := ⟨by decide +kernel, rfl⟩
theorem dDI_wrongHeaderNumber_52 : decode b_DI_wrongHeaderNumber 52 = .ok (.getfield 27, 3) ∧ 52 + 3 = 55 := ⟨by decide +kernel, rfl⟩
theorem dDI_wrongHeaderNumber_55 : decode b_DI_wrongHeaderNumber 55 = .ok (.bipush (32), 2) ∧ 55 + 2 = 57 := ⟨by decide +kernel, rfl⟩
theorem dDI_wrongHeaderNumber_57 : decode b_DI_wrongHeaderNumber 57 = .ok (.invokevirtual 39, 3) ∧ 57 + 3 = 60 := ⟨by decide +kernel, rfl⟩
theorem dDI_wrongHeaderNumber_60 : decode b_DI_wrongHeaderNumber 60 = .ok (.ldc2_w 101, 3) ∧ 60 + 3 = 63 := ⟨by decide +kernel, rfl⟩
theorem dDI_wrongHeaderNumber_63 : decode b_DI_wrongHeaderNumber 63 = .ok (.lcmp, 1) ∧ 63 + 1 = 64 := ⟨by decide +kernel, rfl⟩
theorem dDI_wrongHeaderNumber_64 : decode b_DI_wrongHeaderNumber 64 = .ok (.ifCond .lt (21), 3) ∧ 64 + 3 = 67 ∧ ((64 : Nat) : Int) + (21) = ((85 : Nat) : Int) := ⟨by decide +kernel, rfl, by decide⟩
theorem dDI_wrongHeaderNumber_67 : decode b_DI_wrongHeaderNumber 67 = .ok (.aload_n 0, 1) ∧ 67 + 1 = 68 := ⟨by decide +kernel, rfl⟩
theorem dDI_wrongHeaderNumber_68 : decode b_DI_wrongHeaderNumber 68 = .ok (.getfield 27, 3) ∧ 68 + 3 = 71 := ⟨by decide +kernel, rfl⟩
theorem dDI_wrongHeaderNumber_71 : decode b_DI_wrongHeaderNumber 71 = .ok (.bipush (32), 2) ∧ 71 + 2 = 73 := ⟨by decide +kernel, rfl⟩
theorem dDI_wrongHeaderNumber_73 : decode b_DI_wrongHeaderNumber 73 = .ok (.invokevirtual 39, 3) ∧ 73 + 3 = 76 := ⟨by decide +kernel, rfl⟩
theorem dDI_wrongHeaderNumber_76 : decode b_DI_wrongHeaderNumber 76 = .ok (.ldc2_w 103, 3) ∧ 76 + 3 = 79 := ⟨by decide +kernel, rfl⟩
theorem dDI_wrongHeaderNumber_79 : decode b_DI_wrongHeaderNumber 79 = .ok (.lrem, 1) ∧ 79 + 1 = 80 := ⟨by decide +kernel, rfl⟩
theorem dDI_wrongHeaderNumber_80 : decode b_DI_wrongHeaderNumber 80 = .ok (.lconst 0, 1) ∧ 80 + 1 = 81 := ⟨by decide +kernel, rfl⟩
theorem dDI_wrongHeaderNumber_81 : decode b_DI_wrongHeaderNumber 81 = .ok (.lcmp, 1) ∧ 81 + 1 = 82 := ⟨by decide +kernel, rfl⟩
theorem dDI_wrongHeaderNumber_82 : decode b_DI_wrongHeaderNumber 82 = .ok (.ifCond .eq (6), 3) ∧ 82 + 3 = 85 ∧ ((82 : Nat) : Int) + (6) = ((88 : Nat) : Int) := ⟨by decide +kernel, rfl, by decide⟩
theorem dDI_wrongHeaderNumber_85 : decode b_DI_wrongHeaderNumber 85 = .ok (.bipush (32), 2) ∧ 85 + 2 = 87 := ⟨by decide +kernel, rfl⟩
theorem dDI_wrongHeaderNumber_87 : decode b_DI_wrongHeaderNumber 87 = .ok (.ireturn, 1) ∧ 87 + 1 = 88 := ⟨by decide +kernel, rfl⟩
theorem dDI_wrongHeaderNumber_88 : decode b_DI_wrongHeaderNumber 88 = .ok (.aload_n 0, 1) ∧ 88 + 1 = 89 := ⟨by decide +kernel, rfl⟩
theorem dDI_wrongHeaderNumber_89 : decode b_DI_wrongHeaderNumber 89 = .ok (.getfield 27, 3) ∧ 89 + 3 = 92 := ⟨by decide +kernel, rfl⟩
theorem dDI_wrongHeaderNumber_92 : decode b_DI_wrongHeaderNumber 92 = .ok (.bipush (36), 2) ∧ 92 + 2 = 94 := ⟨by decide +kernel, rfl⟩
theorem dDI_wrongHeaderNumber_94 : decode b_DI_wrongHeaderNumber 94 = .ok (.invokevirtual 39, 3) ∧ 94 + 3 = 97 := ⟨by decide +kernel, rfl⟩
theorem dDI_wrongHeaderNumber_97 : decode b_DI_wrongHeaderNumber 97 = .ok (.lconst 1, 1) ∧ 97 + 1 = 98 := ⟨by decide +kernel, rfl⟩
theorem dDI_wrongHeaderNumber_98 : decode b_DI_wrongHeaderNumber 98 = .ok (.lcmp, 1) ∧ 98 + 1 = 99 := ⟨by decide +kernel, rfl⟩
theorem dDI_wrongHeaderNumber_99 : decode b_DI_wrongHeaderNumber 99 = .ok (.ifCond .le (6), 3) ∧ 99 + 3 = 102 ∧ ((99 : Nat) : Int) + (6) = ((105 : Nat) : Int) := ⟨by decide +kernel, rfl, by decide⟩
theorem dDI_wrongHeaderNumber_102 : decode b_DI_wrongHeaderNumber 102 = .ok (.bipush (36), 2) ∧ 102 + 2 = 104 := ⟨by decide +kernel, rfl⟩
theorem dDI_wrongHeaderNumber_104 : decode b_DI_wrongHeaderNumber 104 = .ok (.ireturn, 1) ∧ 104 + 1 = 105 := ⟨by decide +kernel, rfl⟩
theorem dDI_wrongHeaderNumber_105 : decode b_DI_wrongHeaderNumber 105 = .ok (.aload_n 0, 1) ∧ 105 + 1 = 106 := ⟨by decide +kernel, rfl⟩
theorem dDI_wrongHeaderNumber_106 : decode b_DI_wrongHeaderNumber 106 = .ok (.getfield 27, 3) ∧ 106 + 3 = 109 := ⟨by decide +kernel, rfl⟩
theorem dDI_wrongHeaderNumber_109 : decode b_DI_wrongHeaderNumber 109 = .ok (.bipush (40), 2) ∧ 109 + 2 = 111 := ⟨by decide +kernel, rfl⟩
theorem dDI_wrongHeaderNumber_111 : decode b_DI_wrongHeaderNumber 111 = .ok (.invokevirtual 95, 3) ∧ 111 + 3 = 114 := ⟨by decide +kernel, rfl⟩
theorem dDI_wrongHeaderNumber_114 : decode b_DI_wrongHeaderNumber 114 = .ok (.bipush (52), 2) ∧ 114 + 2 = 116 := ⟨by decide +kernel, rfl⟩
theorem dDI_wrongHeaderNumber_116 : decode b_DI_wrongHeaderNumber 116 = .ok (.if_icmp .eq (6), 3) ∧ 116 + 3 = 119 ∧ ((116 : Nat) : Int) + (6) = ((122 : Nat) : Int) := ⟨by decide +kernel, rfl, by decide⟩
theorem dDI_wrongHeaderNumber_119 : decode b_DI_wrongHeaderNumber 119 = .ok (.bipush (40), 2) ∧ 119 + 2 = 121 := ⟨by decide +kernel, rfl⟩
theorem dDI_wrongHeaderNumber_121 : decode b_DI_wrongHeaderNumber 121 = .ok (.ireturn, 1) ∧ 121 + 1 = 122 := ⟨by decide +kernel, rfl⟩
theorem dDI_wrongHeaderNumber_122 : decode b_DI_wrongHeaderNumber 122 = .ok (.aload_n 0, 1) ∧ 122 + 1 = 123 := ⟨by decide +kernel, rfl⟩
theorem dDI_wrongHeaderNumber_123 : decode b_DI_wrongHeaderNumber 123 = .ok (.getfield 27, 3) ∧ 123 + 3 = 126 := ⟨by decide +kernel, rfl⟩
theorem dDI_wrongHeaderNumber_126 : decode b_DI_wrongHeaderNumber 126 = .ok (.bipush (42), 2) ∧ 126 + 2 = 128 := ⟨by decide +kernel, rfl⟩
theorem dDI_wrongHeaderNumber_128 : decode b_DI_wrongHeaderNumber 128 = .ok (.invokevirtual 95, 3) ∧ 128 + 3 = 131 := ⟨by decide +kernel, rfl⟩
theorem dDI_wrongHeaderNumber_131 : decode b_DI_wrongHeaderNumber 131 = .ok (.ifCond .eq (6), 3) ∧ 131 + 3 = 134 ∧ ((131 : Nat) : Int) + (6) = ((137 : Nat) : Int) := ⟨by decide +kernel, rfl, by decide⟩
theorem dDI_wrongHeaderNumber_134 : decode b_DI_wrongHeaderNumber 134 = .ok (.bipush (42), 2) ∧ 134 + 2 = 136 := ⟨by decide +kernel, rfl⟩
theorem dDI_wrongHeaderNumber_136 : decode b_DI_wrongHeaderNumber 136 = .ok (.ireturn, 1) ∧ 136 + 1 = 137 := ⟨by decide +kernel, rfl⟩
theorem dDI_wrongHeaderNumber_137 : decode b_DI_wrongHeaderNumber 137 = .ok (.aload_n 0, 1) ∧ 137 + 1 = 138 := ⟨by decide +kernel, rfl⟩
theorem dDI_wrongHeaderNumber_138 : decode b_DI_wrongHeaderNumber 138 = .ok (.getfield 27, 3) ∧ 138 + 3 = 141 := ⟨by decide +kernel, rfl⟩
theorem dDI_wrongHeaderNumber_141 : decode b_DI_wrongHeaderNumber 141 = .ok (.bipush (44), 2) ∧ 141 + 2 = 143 := ⟨by decide +kernel, rfl⟩
theorem dDI_wrongHeaderNumber_143 : decode b_DI_wrongHeaderNumber 143 = .ok (.invokevirtual 95, 3) ∧ 143 + 3 = 146 := ⟨by decide +kernel, rfl⟩
theorem dDI_wrongHeaderNumber_146 : decode b_DI_wrongHeaderNumber 146 = .ok (.ifCond .eq (6), 3) ∧ 146 + 3 = 149 ∧ ((146 : Nat) : Int) + (6) = ((152 : Nat) : Int) := ⟨by decide +kernel, rfl, by decide⟩
theorem dDI_wrongHeaderNumber_149 : decode b_DI_wrongHeaderNumber 149 = .ok (.bipush (44), 2) ∧ 149 + 2 = 151 := ⟨by decide +kernel, rfl⟩
theorem dDI_wrongHeaderNumber_151 : decode b_DI_wrongHeaderNumber 151 = .ok (.ireturn, 1) ∧ 151 + 1 = 152 := ⟨by decide +kernel, rfl⟩
theorem dDI_wrongHeaderNumber_152 : decode b_DI_wrongHeaderNumber 152 = .ok (.aload_n 0, 1) ∧ 152 + 1 = 153 := ⟨by decide +kernel, rfl⟩
theorem dDI_wrongHeaderNumber_153 : decode b_DI_wrongHeaderNumber 153 = .ok (.getfield 27, 3) ∧ 153 + 3 = 156 := ⟨by decide +kernel, rfl⟩
theorem dDI_wrongHeaderNumber_156 : decode b_DI_wrongHeaderNumber 156 = .ok (.bipush (46), 2) ∧ 156 + 2 = 158 := ⟨by decide +kernel, rfl⟩
theorem dDI_wrongHeaderNumber_158 : decode b_DI_wrongHeaderNumber 158 = .ok (.invokevirtual 95, 3) ∧ 158 + 3 = 161 := ⟨by decide +kernel, rfl⟩
theorem dDI_wrongHeaderNumber_161 : decode b_DI_wrongHeaderNumber 161 = .ok (.bipush (40), 2) ∧ 161 + 2 = 163 := ⟨by decide +kernel, rfl⟩
theorem dDI_wrongHeaderNumber_163 : decode b_DI_wrongHeaderNumber 163 = .ok (.if_icmp .eq (6), 3) ∧ 163 + 3 = 166 ∧ ((163 : Nat) : Int) + (6) = ((169 : Nat) : Int) := ⟨by decide +kernel, rfl, by decide⟩
theorem dDI_wrongHeaderNumber_166 : decode b_DI_wrongHeaderNumber 166 = .ok (.bipush (46), 2) ∧ 166 + 2 = 168 := ⟨by decide +kernel, rfl⟩
theorem dDI_wrongHeaderNumber_168 : decode b_DI_wrongHeaderNumber 168 = .ok (.ireturn, 1) ∧ 168 + 1 = 169 := ⟨by decide +kernel, rfl⟩
theorem dDI_wrongHeaderNumber_169 : decode b_DI_wrongHeaderNumber 169 = .ok (.aload_n 0, 1) ∧ 169 + 1 = 170 := ⟨by decide +kernel, rfl⟩
theorem dDI_wrongHeaderNumber_170 : decode b_DI_wrongHeaderNumber 170 = .ok (.invokevirtual 105, 3) ∧ 170 + 3 = 173 := ⟨by decide +kernel, rfl⟩
theorem dDI_wrongHeaderNumber_173 : decode b_DI_wrongHeaderNumber 173 = .ok (.ireturn, 1) ∧ 173 + 1 = 174 := ⟨by decide +kernel, rfl⟩
theorem dDI_headerFault_0 : decode b_DI_headerFault 0 = .ok (.aload_n 0, 1) ∧ 0 + 1 = 1 := ⟨by decide +kernel, rfl⟩
theorem dDI_headerFault_1 : decode b_DI_headerFault 1 = .ok (.invokevirtual 98, 3) ∧ 1 + 3 = 4 := ⟨by decide +kernel, rfl⟩
theorem dDI_headerFault_4 : decode b_DI_headerFault 4 = .ok (.istore_n 1, 1) ∧ 4 + 1 = 5 := ⟨by decide +kernel, rfl⟩
theorem dDI_headerFault_5 : decode b_DI_headerFault 5 = .ok (.iload_n 1, 1) ∧ 5 + 1 = 6 := ⟨by decide +kernel, rfl⟩
theorem dDI_headerFault_6 : decode b_DI_headerFault 6 = .ok (.iconst (-1), 1) ∧ 6 + 1 = 7 := ⟨by decide +kernel, rfl⟩
theorem dDI_headerFault_7 : decode b_DI_headerFault 7 = .ok (.if_icmp .eq (14), 3) ∧ 7 + 3 = 10 ∧ ((7 : Nat) : Int) + (14) = ((21 : Nat) : Int) := ⟨by decide +kernel, rfl, by decide⟩
theorem dDI_headerFault_10 : decode b_DI_headerFault 10 = .ok (.aload_n 0, 1) ∧ 10 + 1 = 11 := ⟨by decide +kernel, rfl⟩
theorem dDI_headerFault_11 : decode b_DI_headerFault 11 = .ok (.getfield 31, 3) ∧ 11 + 3 = 14 := ⟨by decide +kernel, rfl⟩
theorem dDI_headerFault_14 : decode b_DI_headerFault 14 = .ok (.bipush (9), 2) ∧ 14 + 2 = 16 := ⟨by decide +kernel, rfl⟩
theorem dDI_headerFault_16 : decode b_DI_headerFault 16 = .ok (.iload_n 1, 1) ∧ 16 + 1 = 17 := ⟨by decide +kernel, rfl⟩
theorem dDI_headerFault_17 : decode b_DI_headerFault 17 = .ok (.invokevirtual 45, 3) ∧ 17 + 3 = 20 := ⟨by decide +kernel, rfl⟩
theorem dDI_headerFault_20 : decode b_DI_headerFault 20 = .ok (.ireturn, 1) ∧ 20 + 1 = 21 := ⟨by decide +kernel, rfl⟩
theorem dDI_headerFault_21 : decode b_DI_headerFault 21 = .ok (.aload_n 0, 1) ∧ 21 + 1 = 22 := ⟨by decide +kernel, rfl⟩
theorem dDI_headerFault_22 : decode b_DI_headerFault 22 = .ok (.aload_n 0, 1) ∧ 22 + 1 = 23 := ⟨by decide +kernel, rfl⟩
theorem dDI_headerFault_23 : decode b_DI_headerFault 23 = .ok (.getfield 27, 3) ∧ 23 + 3 = 26 := ⟨by decide +kernel, rfl⟩
theorem dDI_headerFault_26 : decode b_DI_headerFault 26 = .ok (.bipush (48), 2) ∧ 26 + 2 = 28 := ⟨by decide +kernel, rfl⟩
theorem dDI_headerFault_28 : decode b_DI_headerFault 28 = .ok (.invokevirtual 95, 3) ∧ 28 + 3 = 31 := ⟨by decide +kernel, rfl⟩
theorem dDI_headerFault_31 : decode b_DI_headerFault 31 = .ok (.putfield 51, 3) ∧ 31 + 3 = 34 := ⟨by decide +kernel, rfl⟩
theorem dDI_headerFault_34 : decode b_DI_headerFault 34 = .ok (.aload_n 0, 1) ∧ 34 + 1 = 35 := ⟨by decide +kernel, rfl⟩
theorem dDI_headerFault_35 : decode b_DI_headerFault 35 = .ok (.aload_n 0, 1) ∧ 35 + 1 = 36 := ⟨by decide +kernel, rfl⟩
theorem dDI_headerFault_36 : decode b_DI_headerFault 36 = .ok (.getfield 27, 3) ∧ 36 + 3 = 39 := ⟨by decide +kernel, rfl⟩
theorem dDI_headerFault_39 : decode b_DI_headerFault 39 = .ok (.bipush (50), 2) ∧ 39 + 2 = 41 := ⟨by decide +kernel, rfl⟩
theorem dDI_headerFault_41 : decode b_DI_headerFault 41 = .ok (.invokevirtual 95, 3) ∧ 41 + 3 = 44 := ⟨by decide +kernel, rfl⟩
theorem dDI_headerFault_44 : decode b_DI_headerFault 44 = .ok (.putfield 64, 3) ∧ 44 + 3 = 47 := ⟨by decide +kernel, rfl⟩
theorem dDI_headerFault_47 : decode b_DI_headerFault 47 = .ok (.aload_n 0, 1) ∧ 47 + 1 = 48 := ⟨by decide +kernel, rfl⟩
theorem dDI_headerFault_48 : decode b_DI_headerFault 48 = .ok (.getfield 27, 3) ∧ 48 + 3 = 51 := ⟨by decide +kernel, rfl⟩
theorem dDI_headerFault_51 : decode b_DI_headerFault 51 = .ok (.bipush (32), 2) ∧ 51 + 2 = 53 := ⟨by decide +kernel, rfl⟩
theorem dDI_headerFault_53 : decode b_DI_headerFault 53 = .ok (.invokevirtual 39, 3) ∧ 53 + 3 = 56 := ⟨by decide +kernel, rfl⟩
theorem dDI_headerFault_56 : decode b_DI_headerFault 56 = .ok (.bipush (40), 2) ∧ 56 + 2 = 58 := ⟨by decide +kernel, rfl⟩
theorem dDI_headerFault_58 : decode b_DI_headerFault 58 = .ok (.aload_n 0, 1) ∧ 58 + 1 = 59 := ⟨by decide +kernel, rfl⟩
theorem dDI_headerFault_59 : decode b_DI_headerFault 59 = .ok (.getfield 51, 3) ∧ 59 + 3 = 62 := ⟨by decide +kernel, rfl⟩
theorem dDI_headerFault_62 : decode b_DI_headerFault 62 = .ok (.imul, 1) ∧ 62 + 1 = 63 := ⟨by decide +kernel, rfl⟩
theorem dDI_headerFault_63 : decode b_DI_headerFault 63 = .ok (.i2l, 1) ∧ 63 + 1 = 64 := ⟨by decide +kernel, rfl⟩
theorem dDI_headerFault_64 : decode b_DI_headerFault 64 = .ok (.ladd, 1) ∧ 64 + 1 = 65 := ⟨by decide +kernel, rfl⟩
theorem dDI_headerFault_65 : decode b_DI_headerFault 65 = .ok (.aload_n 0, 1) ∧ 65 + 1 = 66 := ⟨by decide +kernel, rfl⟩
theorem dDI_headerFault_66 : decode b_DI_headerFault 66 = .ok (.getfield 27, 3) ∧ 66 + 3 = 69 := ⟨by decide +kernel, rfl⟩
theorem dDI_headerFault_69 : decode b_DI_headerFault 69 = .ok (.getfield 85, 3) ∧ 69 + 3 = 72 := ⟨by decide +kernel, rfl⟩
theorem dDI_headerFault_72 : decode b_DI_headerFault 72 = .ok (.i2l, 1) ∧ 72 + 1 = 73 := ⟨by decide +kernel, rfl⟩
theorem dDI_headerFault_73 : decode b_DI_headerFault 73 = .ok (.lcmp, 1) ∧ 73 + 1 = 74 := ⟨by decide +kernel, rfl⟩
theorem dDI_headerFault_74 : decode b_DI_headerFault 74 = .ok (.ifCond .le (15), 3) ∧ 74 + 3 = 77 ∧ ((74 : Nat) : Int) + (15) = ((89 : Nat) : Int) := ⟨by decide +kernel, rfl, by decide⟩
theorem dDI_headerFault_77 : decode b_DI_headerFault 77 = .ok (.aload_n 0, 1) ∧ 77 + 1 = 78 := ⟨by decide +kernel, rfl⟩
theorem dDI_headerFault_78 : decode b_DI_headerFault 78 = .ok (.getfield 31, 3) ∧ 78 + 3 = 81 := ⟨by decide +kernel, rfl⟩
theorem dDI_headerFault_81 : decode b_DI_headerFault 81 = .ok (.bipush (10), 2) ∧ 81 + 2 = 83 := ⟨by decide +kernel, rfl⟩
theorem dDI_headerFault_83 : decode b_DI_headerFault 83 = .ok (.bipush (32), 2) ∧ 83 + 2 = 85 := ⟨by decide +kernel, rfl⟩
theorem dDI_headerFault_85 : decode b_DI_headerFault 85 = .ok (.invokevirtual 45, 3) ∧ 85 + 3 = 88 := ⟨by decide +kernel, rfl⟩
theorem dDI_headerFault_88 : decode b_DI_headerFault 88 = .ok (.ireturn, 1) ∧ 88 + 1 = 89 := ⟨by decide +kernel, rfl⟩
theorem dDI_headerFault_89 : decode b_DI_headerFault 89 = .ok (.aload_n 0, 1) ∧ 89 + 1 = 90 := ⟨by decide +kernel, rfl⟩
theorem dDI_headerFault_90 : decode b_DI_headerFault 90 = .ok (.aload_n 0, 1) ∧ 90 + 1 = 91 := ⟨by decide +kernel, rfl⟩
theorem dDI_headerFault_91 : decode b_DI_headerFault 91 = .ok (.getfield 27, 3) ∧ 91 + 3 = 94 := ⟨by decide +kernel, rfl⟩
theorem dDI_headerFault_94 : decode b_DI_headerFault 94 = .ok (.bipush (32), 2) ∧ 94 + 2 = 96 := ⟨by decide +kernel, rfl⟩
theorem dDI_headerFault_96 : decode b_DI_headerFault 96 = .ok (.invokevirtual 39, 3) ∧ 96 + 3 = 99 := ⟨by decide +kernel, rfl⟩
theorem dDI_headerFault_99 : decode b_DI_headerFault 99 = .ok (.l2i, 1) ∧ 99 + 1 = 100 := ⟨by decide +kernel, rfl⟩
theorem dDI_headerFault_100 : decode b_DI_headerFault 100 = .ok (.putfield 35, 3) ∧ 100 + 3 = 103 := ⟨by decide +kernel, rfl⟩
theorem dDI_headerFault_103 : decode b_DI_headerFault 103 = .ok (.iconst 0, 1) ∧ 103 + 1 = 104 := ⟨by decide +kernel, rfl⟩
theorem dDI_headerFault_104 : decode b_DI_headerFault 104 = .ok (.ireturn, 1) ∧ 104 + 1 = 105 := ⟨by decide +kernel, rfl⟩
theorem dDI_numberOf_0 : decode b_DI_numberOf 0 = .ok (.aload_n 0, 1) ∧ 0 + 1 = 1 := ⟨by decide +kernel, rfl⟩
theorem dDI_numberOf_1 : decode b_DI_numberOf 1 = .ok (.getfield 27, 3) ∧ 1 + 3 = 4 := ⟨by decide +kernel, rfl⟩
theorem dDI_numberOf_4 : decode b_DI_numberOf 4 = .ok (.aload_n 0, 1) ∧ 4 + 1 = 5 := ⟨by decide +kernel, rfl⟩
theorem dDI_numberOf_5 : decode b_DI_numberOf 5 = .ok (.getfield 35, 3) ∧ 5 + 3 = 8 := ⟨by decide +kernel, rfl⟩
theorem dDI_numberOf_8 : decode b_DI_numberOf 8 = .ok (.bipush (40), 2) ∧ 8 + 2 = 10 := ⟨by decide +kernel, rfl⟩
theorem dDI_numberOf_10 : decode b_DI_numberOf 10 = .ok (.iload_n 1, 1) ∧ 10 + 1 = 11 := ⟨by decide +kernel, rfl⟩
theorem dDI_numberOf_11 : decode b_DI_numberOf 11 = .ok (.imul, 1) ∧ 11 + 1 = 12 := ⟨by decide +kernel, rfl⟩
theorem dDI_numberOf_12 : decode b_DI_numberOf 12 = .ok (.iadd, 1) ∧ 12 + 1 = 13 := ⟨by decide +kernel, rfl⟩
theorem dDI_numberOf_13 : decode b_DI_numberOf 13 = .ok (.iconst 4, 1) ∧ 13 + 1 = 14 := ⟨by decide +kernel, rfl⟩
theorem dDI_numberOf_14 : decode b_DI_numberOf 14 = .ok (.iload_n 2, 1) ∧ 14 + 1 = 15 := ⟨by decide +kernel, rfl⟩
theorem dDI_numberOf_15 : decode b_DI_numberOf 15 = .ok (.imul, 1) ∧ 15 + 1 = 16 := ⟨by decide +kernel, rfl⟩
theorem dDI_numberOf_16 : decode b_DI_numberOf 16 = .ok (.iadd, 1) ∧ 16 + 1 = 17 := ⟨by decide +kernel, rfl⟩
theorem dDI_numberOf_17 : decode b_DI_numberOf 17 = .ok (.invokevirtual 39, 3) ∧ 17 + 3 = 20 := ⟨by decide +kernel, rfl⟩
theorem dDI_numberOf_20 : decode b_DI_numberOf 20 = .ok (.lreturn, 1) ∧ 20 + 1 = 21 := ⟨by decide +kernel, rfl⟩
theorem dDI_tellEntry_0 : decode b_DI_tellEntry 0 = .ok (.aload_n 0, 1) ∧ 0 + 1 = 1 := ⟨by decide +kernel, rfl⟩
theorem dDI_tellEntry_1 : decode b_DI_tellEntry 1 = .ok (.getfield 31, 3) ∧ 1 + 3 = 4 := ⟨by decide +kernel, rfl⟩
theorem dDI_tellEntry_4 : decode b_DI_tellEntry 4 = .ok (.iload_n 1, 1) ∧ 4 + 1 = 5 := ⟨by decide +kernel, rfl⟩
theorem dDI_tellEntry_5 : decode b_DI_tellEntry 5 = .ok (.aload_n 0, 1) ∧ 5 + 1 = 6 := ⟨by decide +kernel, rfl⟩
theorem dDI_tellEntry_6 : decode b_DI_tellEntry 6 = .ok (.getfield 35, 3) ∧ 6 + 3 = 9 := ⟨by decide +kernel, rfl⟩
theorem dDI_tellEntry_9 : decode b_DI_tellEntry 9 = .ok (.bipush (40), 2) ∧ 9 + 2 = 11 := ⟨by decide +kernel, rfl⟩
theorem dDI_tellEntry_11 : decode b_DI_tellEntry 11 = .ok (.iload_n 2, 1) ∧ 11 + 1 = 12 := ⟨by decide +kernel, rfl⟩
theorem dDI_tellEntry_12 : decode b_DI_tellEntry 12 = .ok (.imul, 1) ∧ 12 + 1 = 13 := ⟨by decide +kernel, rfl⟩
theorem dDI_tellEntry_13 : decode b_DI_tellEntry 13 = .ok (.iadd, 1) ∧ 13 + 1 = 14 := ⟨by decide +kernel, rfl⟩
theorem dDI_tellEntry_14 : decode b_DI_tellEntry 14 = .ok (.iconst 4, 1) ∧ 14 + 1 = 15 := ⟨by decide +kernel, rfl⟩
theorem dDI_tellEntry_15 : decode b_DI_tellEntry 15 = .ok (.iload_n 3, 1) ∧ 15 + 1 = 16 := ⟨by decide +kernel, rfl⟩
theorem dDI_tellEntry_16 : decode b_DI_tellEntry 16 = .ok (.imul, 1) ∧ 16 + 1 = 17 := ⟨by decide +kernel, rfl⟩
theorem dDI_tellEntry_17 : decode b_DI_tellEntry 17 = .ok (.iadd, 1) ∧ 17 + 1 = 18 := ⟨by decide +kernel, rfl⟩
theorem dDI_tellEntry_18 : decode b_DI_tellEntry 18 = .ok (.invokevirtual 45, 3) ∧ 18 + 3 = 21 := ⟨by decide +kernel, rfl⟩
theorem dDI_tellEntry_21 : decode b_DI_tellEntry 21 = .ok (.ireturn, 1) ∧ 21 + 1 = 22 := ⟨by decide +kernel, rfl⟩
theorem dDI_sharesBytes_0 : decode b_DI_sharesBytes 0 = .ok (.lload_n 2, 1) ∧ 0 + 1 = 1 := ⟨by decide +kernel, rfl⟩
theorem dDI_sharesBytes_1 : decode b_DI_sharesBytes 1 = .ok (.aload_n 0, 1) ∧ 1 + 1 = 2 := ⟨by decide +kernel, rfl⟩
theorem dDI_sharesBytes_2 : decode b_DI_sharesBytes 2 = .ok (.getfield 35, 3) ∧ 2 + 3 = 5 := ⟨by decide +kernel, rfl⟩
theorem dDI_sharesBytes_5 : decode b_DI_sharesBytes 5 = .ok (.bipush (40), 2) ∧ 5 + 2 = 7 := ⟨by decide +kernel, rfl⟩
theorem dDI_sharesBytes_7 : decode b_DI_sharesBytes 7 = .ok (.aload_n 0, 1) ∧ 7 + 1 = 8 := ⟨by decide +kernel, rfl⟩
theorem dDI_sharesBytes_8 : decode b_DI_sharesBytes 8 = .ok (.getfield 51, 3) ∧ 8 + 3 = 11 := ⟨by decide +kernel, rfl⟩
theorem dDI_sharesBytes_11 : decode b_DI_sharesBytes 11 = .ok (.imul, 1) ∧ 11 + 1 = 12 := ⟨by decide +kernel, rfl⟩
theorem dDI_sharesBytes_12 : decode b_DI_sharesBytes 12 = .ok (.iadd, 1) ∧ 12 + 1 = 13 := ⟨by decide +kernel, rfl⟩
theorem dDI_sharesBytes_13 : decode b_DI_sharesBytes 13 = .ok (.i2l, 1) ∧ 13 + 1 = 14 := ⟨by decide +kernel, rfl⟩
theorem dDI_sharesBytes_14 : decode b_DI_sharesBytes 14 = .ok (.lcmp, 1) ∧ 14 + 1 = 15 := ⟨by decide +kernel, rfl⟩
theorem dDI_sharesBytes_15 : decode b_DI_sharesBytes 15 = .ok (.ifCond .ge (16), 3) ∧ 15 + 3 = 18 ∧ ((15 : Nat) : Int) + (16) = ((31 : Nat) : Int) := ⟨by decide +kernel, rfl, by decide⟩
theorem dDI_sharesBytes_18 : decode b_DI_sharesBytes 18 = .ok (.aload_n 0, 1) ∧ 18 + 1 = 19 := ⟨by decide +kernel, rfl⟩
theorem dDI_sharesBytes_19 : decode b_DI_sharesBytes 19 = .ok (.getfield 35, 3) ∧ 19 + 3 = 22 := ⟨by decide +kernel, rfl⟩
theorem dDI_sharesBytes_22 : decode b_DI_sharesBytes 22 = .ok (.i2l, 1) ∧ 22 + 1 = 23 := ⟨by decide +kernel, rfl⟩
theorem dDI_sharesBytes_23 : decode b_DI_sharesBytes 23 = .ok (.lload 4, 2) ∧ 23 + 2 = 25 := ⟨by decide +kernel, rfl⟩
theorem dDI_sharesBytes_25 : decode b_DI_sharesBytes 25 = .ok (.lcmp, 1) ∧ 25 + 1 = 26 := ⟨by decide +kernel, rfl⟩
theorem dDI_sharesBytes_26 : decode b_DI_sharesBytes 26 = .ok (.ifCond .ge (5), 3) ∧ 26 + 3 = 29 ∧ ((26 : Nat) : Int) + (5) = ((31 : Nat) : Int) := ⟨by decide +kernel, rfl, by decide⟩
theorem dDI_sharesBytes_29 : decode b_DI_sharesBytes 29 = .ok (.iconst 1, 1) ∧ 29 + 1 = 30 := ⟨by decide +kernel, rfl⟩
theorem dDI_sharesBytes_30 : decode b_DI_sharesBytes 30 = .ok (.ireturn, 1) ∧ 30 + 1 = 31 := ⟨by decide +kernel, rfl⟩
theorem dDI_sharesBytes_31 : decode b_DI_sharesBytes 31 = .ok (.iconst 1, 1) ∧ 31 + 1 = 32 := ⟨by decide +kernel, rfl⟩
theorem dDI_sharesBytes_32 : decode b_DI_sharesBytes 32 = .ok (.istore 6, 2) ∧ 32 + 2 = 34 := ⟨by decide +kernel, rfl⟩
theorem dDI_sharesBytes_34 : decode b_DI_sharesBytes 34 = .ok (.iload 6, 2) ∧ 34 + 2 = 36 := ⟨by decide +kernel, rfl⟩
theorem dDI_sharesBytes_36 : decode b_DI_sharesBytes 36 = .ok (.iload_n 1, 1) ∧ 36 + 1 = 37 := ⟨by decide +kernel, rfl⟩
theorem dDI_sharesBytes_37 : decode b_DI_sharesBytes 37 = .ok (.if_icmp .ge (72), 3) ∧ 37 + 3 = 40 ∧ ((37 : Nat) : Int) + (72) = ((109 : Nat) : Int) := ⟨by decide +kernel, rfl, by decide⟩
theorem dDI_sharesBytes_40 : decode b_DI_sharesBytes 40 = .ok (.aload_n 0, 1) ∧ 40 + 1 = 41 := ⟨by decide +kernel, rfl⟩
theorem dDI_sharesBytes_41 : decode b_DI_sharesBytes 41 = .ok (.iload 6, 2) ∧ 41 + 2 = 43 := ⟨by decide +kernel, rfl⟩
theorem dDI_sharesBytes_43 : decode b_DI_sharesBytes 43 = .ok (.iconst 4, 1) ∧ 43 + 1 = 44 := ⟨by decide +kernel, rfl⟩
theorem dDI_sharesBytes_44 : decode b_DI_sharesBytes 44 = .ok (.invokevirtual 108, 3) ∧ 44 + 3 = 47 := ⟨by decide +kernel, rfl⟩
theorem dDI_sharesBytes_47 : decode b_DI_sharesBytes 47 = .ok (.lstore 7, 2) ∧ 47 + 2 = 49 := ⟨by decide +kernel, rfl⟩
theorem dDI_sharesBytes_49 : decode b_DI_sharesBytes 49 = .ok (.aload_n 0, 1) ∧ 49 + 1 = 50 := ⟨by decide +kernel, rfl⟩
theorem dDI_sharesBytes_50 : decode b_DI_sharesBytes 50 = .ok (.iload 6, 2) ∧ 50 + 2 = 52 := ⟨by decide +kernel, rfl⟩
theorem dDI_sharesBytes_52 : decode b_DI_sharesBytes 52 = .ok (.iconst 1, 1) ∧ 52 + 1 = 53 := ⟨by decide +kernel, rfl⟩
theorem dDI_sharesBytes_53 : decode b_DI_sharesBytes 53 = .ok (.invokevirtual 108, 3) ∧ 53 + 3 = 56 := ⟨by decide +kernel, rfl⟩
theorem dDI_sharesBytes_56 : decode b_DI_sharesBytes 56 = .ok (.ldc2_w 119, 3) ∧ 56 + 3 = 59 := ⟨by decide +kernel, rfl⟩
theorem dDI_sharesBytes_59 : decode b_DI_sharesBytes 59 = .ok (.lcmp, 1) ∧ 59 + 1 = 60 := ⟨by decide +kernel, rfl⟩
theorem dDI_sharesBytes_60 : decode b_DI_sharesBytes 60 = .ok (.ifCond .ne (7), 3) ∧ 60 + 3 = 63 ∧ ((60 : Nat) : Int) + (7) = ((67 : Nat) : Int) := ⟨by decide +kernel, rfl, by decide⟩
theorem dDI_sharesBytes_63 : decode b_DI_sharesBytes 63 = .ok (.lconst 0, 1) ∧ 63 + 1 = 64 := ⟨by decide +kernel, rfl⟩
theorem dDI_sharesBytes_64 : decode b_DI_sharesBytes 64 = .ok (.goto (10), 3) ∧ 64 + 3 = 67 ∧ ((64 : Nat) : Int) + (10) = ((74 : Nat) : Int) := ⟨by decide +kernel, rfl, by decide⟩
theorem dDI_sharesBytes_67 : decode b_DI_sharesBytes 67 = .ok (.aload_n 0, 1) ∧ 67 + 1 = 68 := ⟨by decide +kernel, rfl⟩
theorem dDI_sharesBytes_68 : decode b_DI_sharesBytes 68 = .ok (.iload 6, 2) ∧ 68 + 2 = 70 := ⟨by decide +kernel, rfl⟩
theorem dDI_sharesBytes_70 : decode b_DI_sharesBytes 70 = .ok (.iconst 5, 1) ∧ 70 + 1 = 71 := ⟨by decide +kernel, rfl⟩
theorem dDI_sharesBytes_71 : decode b_DI_sharesBytes 71 = .ok (.invokevirtual 108, 3) ∧ 71 + 3 = 74 := ⟨by decide +kernel, rfl⟩
theorem dDI_sharesBytes_74 : decode b_DI_sharesBytes 74 = .ok (.lstore 9, 2) ∧ 74 + 2 = 76 := ⟨by decide +kernel, rfl⟩
theorem dDI_sharesBytes_76 : decode b_DI_sharesBytes 76 = .ok (.lload 9, 2) ∧ 76 + 2 = 78 := ⟨by decide +kernel, rfl⟩
theorem dDI_sharesBytes_78 : decode b_DI_sharesBytes 78 = .ok (.lconst 0, 1) ∧ 78 + 1 = 79 := ⟨by decide +kernel, rfl⟩
theorem dDI_sharesBytes_79 : decode b_DI_sharesBytes 79 = .ok (.lcmp, 1) ∧ 79 + 1 = 80 := ⟨by decide +kernel, rfl⟩
theorem dDI_sharesBytes_80 : decode b_DI_sharesBytes 80 = .ok (.ifCond .le (23), 3) ∧ 80 + 3 = 83 ∧ ((80 : Nat) : Int) + (23) = ((103 : Nat) : Int) := ⟨by decide +kernel, rfl, by decide⟩
theorem dDI_sharesBytes_83 : decode b_DI_sharesBytes 83 = .ok (.lload_n 2, 1) ∧ 83 + 1 = 84 := ⟨by decide +kernel, rfl⟩
theorem dDI_sharesBytes_84 : decode b_DI_sharesBytes 84 = .ok (.lload 7, 2) ∧ 84 + 2 = 86 := ⟨by decide +kernel, rfl⟩
theorem dDI_sharesBytes_86 : decode b_DI_sharesBytes 86 = .ok (.lload 9, 2) ∧ 86 + 2 = 88 := ⟨by decide +kernel, rfl⟩
theorem dDI_sharesBytes_88 : decode b_DI_sharesBytes 88 = .ok (.ladd, 1) ∧ 88 + 1 = 89 := ⟨by decide +kernel, rfl⟩
theorem dDI_sharesBytes_89 : decode b_DI_sharesBytes 89 = .ok (.lcmp, 1) ∧ 89 + 1 = 90 := ⟨by decide +kernel, rfl⟩
theorem dDI_sharesBytes_90 : decode b_DI_sharesBytes 90 = .ok (.ifCond .ge (13), 3) ∧ 90 + 3 = 93 ∧ ((90 : Nat) : Int) + (13) = ((103 : Nat) : Int) := ⟨by decide +kernel, rfl, by decide⟩
theorem dDI_sharesBytes_93 : decode b_DI_sharesBytes 93 = .ok (.lload 7, 2) ∧ 93 + 2 = 95 := ⟨by decide +kernel, rfl⟩
theorem dDI_sharesBytes_95 : decode b_DI_sharesBytes 95 = .ok (.lload 4, 2) ∧ 95 + 2 = 97 := ⟨by decide +kernel, rfl⟩
theorem dDI_sharesBytes_97 : decode b_DI_sharesBytes 97 = .ok (.lcmp, 1) ∧ 97 + 1 = 98 := ⟨by decide +kernel, rfl⟩
theorem dDI_sharesBytes_98 : decode b_DI_sharesBytes 98 = .ok (.ifCond .ge (5), 3) ∧ 98 + 3 = 101 ∧ ((98 : Nat) : Int) + (5) = ((103 : Nat) : Int) := ⟨by decide +kernel, rfl, by decide⟩
theorem dDI_sharesBytes_101 : decode b_DI_sharesBytes 101 = .ok (.iconst 1, 1) ∧ 101 + 1 = 102 := ⟨by decide +kernel, rfl⟩
theorem dDI_sharesBytes_102 : decode b_DI_sharesBytes 102 = .ok (.ireturn, 1) ∧ 102 + 1 = 103 := ⟨by decide +kernel, rfl⟩
theorem dDI_sharesBytes_103 : decode b_DI_sharesBytes 103 = .ok (.iinc 6 (1), 3) ∧ 103 + 3 = 106 := ⟨by decide +kernel, rfl⟩
theorem dDI_sharesBytes_106 : decode b_DI_sharesBytes 106 = .ok (.goto (-72), 3) ∧ 106 + 3 = 109 ∧ ((106 : Nat) : Int) + (-72) = ((34 : Nat) : Int) := ⟨by decide +kernel, rfl, by decide⟩
theorem dDI_sharesBytes_109 : decode b_DI_sharesBytes 109 = .ok (.iconst 0, 1) ∧ 109 + 1 = 110 := ⟨by decide +kernel, rfl⟩
theorem dDI_sharesBytes_110 : decode b_DI_sharesBytes 110 = .ok (.ireturn, 1) ∧ 110 + 1 = 111 := ⟨by decide +kernel, rfl⟩
theorem dDI_entryFault_0 : decode b_DI_entryFault 0 = .ok (.aload_n 0, 1) ∧ 0 + 1 = 1 := ⟨by decide +kernel, rfl⟩
theorem dDI_entryFault_1 : decode b_DI_entryFault 1 = .ok (.iload_n 1, 1) ∧ 1 + 1 = 2 := ⟨by decide +kernel, rfl⟩
theorem dDI_entryFault_2 : decode b_DI_entryFault 2 = .ok (.iconst 1, 1) ∧ 2 + 1 = 3 := ⟨by decide +kernel, rfl⟩
theorem dDI_entryFault_3 : decode b_DI_entryFault 3 = .ok (.invokevirtual 108, 3) ∧ 3 + 3 = 6 := ⟨by decide +kernel, rfl⟩
theorem dDI_entryFault_6 : decode b_DI_entryFault 6 = .ok (.lstore_n 2, 1) ∧ 6 + 1 = 7 := ⟨by decide +kernel, rfl⟩
theorem dDI_entryFault_7 : decode b_DI_entryFault 7 = .ok (.lload_n 2, 1) ∧ 7 + 1 = 8 := ⟨by decide +kernel, rfl⟩
theorem dDI_entryFault_8 : decode b_DI_entryFault 8 = .ok (.ldc2_w 119, 3) ∧ 8 + 3 = 11 := ⟨by decide +kernel, rfl⟩
theorem dDI_entryFault_11 : decode b_DI_entryFault 11 = .ok (.lcmp, 1) ∧ 11 + 1 = 12 := ⟨by decide +kernel, rfl⟩
theorem dDI_entryFault_12 : decode b_DI_entryFault 12 = .ok (.ifCond .eq (7), 3) ∧ 12 + 3 = 15 ∧ ((12 : Nat) : Int) + (7) = ((19 : Nat) : Int) := ⟨by decide +kernel, rfl, by decide⟩
theorem dDI_entryFault_15 : decode b_DI_entryFault 15 = .ok (.iconst 1, 1) ∧ 15 + 1 = 16 := ⟨by decide +kernel, rfl⟩
theorem dDI_entryFault_16 : decode b_DI_entryFault 16 = .ok (.goto (4), 3) ∧ 16 + 3 = 19 ∧ ((16 : Nat) : Int) + (4) = ((20 : Nat) : Int) := ⟨by decide +kernel, rfl, by decide⟩
theorem dDI_entryFault_19 : decode b_DI_entryFault 19 = .ok (.iconst 0, 1) ∧ 19 + 1 = 20 := ⟨by decide +kernel, rfl⟩
theorem dDI_entryFault_20 : decode b_DI_entryFault 20 = .ok (.istore 4, 2) ∧ 20 + 2 = 22 := ⟨by decide +kernel, rfl⟩
theorem dDI_entryFault_22 : decode b_DI_entryFault 22 = .ok (.iload 4, 2) ∧ 22 + 2 = 24 := ⟨by decide +kernel, rfl⟩
theorem dDI_entryFault_24 : decode b_DI_entryFault 24 = .ok (.ifCond .eq (26), 3) ∧ 24 + 3 = 27 ∧ ((24 : Nat) : Int) + (26) = ((50 : Nat) : Int) := ⟨by decide +kernel, rfl, by decide⟩
theorem dDI_entryFault_27 : decode b_DI_entryFault 27 = .ok (.lload_n 2, 1) ∧ 27 + 1 = 28 := ⟨by decide +kernel, rfl⟩
theorem dDI_entryFault_28 : decode b_DI_entryFault 28 = .ok (.lconst 1, 1) ∧ 28 + 1 = 29 := ⟨by decide +kernel, rfl⟩
theorem dDI_entryFault_29 : decode b_DI_entryFault 29 = .ok (.lcmp, 1) ∧ 29 + 1 = 30 := ⟨by decide +kernel, rfl⟩
theorem dDI_entryFault_30 : decode b_DI_entryFault 30 = .ok (.ifCond .lt (11), 3) ∧ 30 + 3 = 33 ∧ ((30 : Nat) : Int) + (11) = ((41 : Nat) : Int) := ⟨by decide +kernel, rfl, by decide⟩
theorem dDI_entryFault_33 : decode b_DI_entryFault 33 = .ok (.lload_n 2, 1) ∧ 33 + 1 = 34 := ⟨by decide +kernel, rfl⟩
theorem dDI_entryFault_34 : decode b_DI_entryFault 34 = .ok (.ldc2_w 103, 3) ∧ 34 + 3 = 37 := ⟨by decide +kernel, rfl⟩
theorem dDI_entryFault_37 : decode b_DI_entryFault 37 = .ok (.lcmp, 1) ∧ 37 + 1 = 38 := ⟨by decide +kernel, rfl⟩
theorem dDI_entryFault_38 : decode b_DI_entryFault 38 = .ok (.ifCond .le (12), 3) ∧ 38 + 3 = 41 ∧ ((38 : Nat) : Int) + (12) = ((50 : Nat) : Int) := ⟨by decide +kernel, rfl, by decide⟩
theorem dDI_entryFault_41 : decode b_DI_entryFault 41 = .ok (.aload_n 0, 1) ∧ 41 + 1 = 42 := ⟨by decide +kernel, rfl⟩
theorem dDI_entryFault_42 : decode b_DI_entryFault 42 = .ok (.bipush (11), 2) ∧ 42 + 2 = 44 := ⟨by decide +kernel, rfl⟩
theorem dDI_entryFault_44 : decode b_DI_entryFault 44 = .ok (.iload_n 1, 1) ∧ 44 + 1 = 45 := ⟨by decide +kernel, rfl⟩
theorem dDI_entryFault_45 : decode b_DI_entryFault 45 = .ok (.iconst 1, 1) ∧ 45 + 1 = 46 := ⟨by decide +kernel, rfl⟩
theorem dDI_entryFault_46 : decode b_DI_entryFault 46 = .ok (.invokevirtual 112, 3) ∧ 46 + 3 = 49 := ⟨by decide +kernel, rfl⟩
theorem dDI_entryFault_49 : decode b_DI_entryFault 49 = .ok (.ireturn, 1) ∧ 49 + 1 = 50 := ⟨by decide +kernel, rfl⟩
theorem dDI_entryFault_50 : decode b_DI_entryFault 50 = .ok (.aload_n 0, 1) ∧ 50 + 1 = 51 := ⟨by decide +kernel, rfl⟩
theorem dDI_entryFault_51 : decode b_DI_entryFault 51 = .ok (.iload_n 1, 1) ∧ 51 + 1 = 52 := ⟨by decide +kernel, rfl⟩
theorem dDI_entryFault_52 : decode b_DI_entryFault 52 = .ok (.iconst 4, 1) ∧ 52 + 1 = 53 := ⟨by decide +kernel, rfl⟩
theorem dDI_entryFault_53 : decode b_DI_entryFault 53 = .ok (.invokevirtual 108, 3) ∧ 53 + 3 = 56 := ⟨by decide +kernel, rfl⟩
theorem dDI_entryFault_56 : decode b_DI_entryFault 56 = .ok (.lstore 5, 2) ∧ 56 + 2 = 58 := ⟨by decide +kernel, rfl⟩
theorem dDI_entryFault_58 : decode b_DI_entryFault 58 = .ok (.aload_n 0, 1) ∧ 58 + 1 = 59 := ⟨by decide +kernel, rfl⟩
theorem dDI_entryFault_59 : decode b_DI_entryFault 59 = .ok (.iload_n 1, 1) ∧ 59 + 1 = 60 := ⟨by decide +kernel, rfl⟩
theorem dDI_entryFault_60 : decode b_DI_entryFault 60 = .ok (.iconst 5, 1) ∧ 60 + 1 = 61 := ⟨by decide +kernel, rfl⟩
theorem dDI_entryFault_61 : decode b_DI_entryFault 61 = .ok (.invokevirtual 108, 3) ∧ 61 + 3 = 64 := ⟨by decide +kernel, rfl⟩
theorem dDI_entryFault_64 : decode b_DI_entryFault 64 = .ok (.lstore 7, 2) ∧ 64 + 2 = 66 := ⟨by decide +kernel, rfl⟩
theorem dDI_entryFault_66 : decode b_DI_entryFault 66 = .ok (.iload 4, 2) ∧ 66 + 2 = 68 := ⟨by decide +kernel, rfl⟩
theorem dDI_entryFault_68 : decode b_DI_entryFault 68 = .ok (.ifCond .eq (45), 3) ∧ 68 + 3 = 71 ∧ ((68 : Nat) : Int) + (45) = ((113 : Nat) : Int) := ⟨by decide +kernel, rfl, by decide⟩
theorem dDI_entryFault_71 : decode b_DI_entryFault 71 = .ok (.lload 5, 2) ∧ 71 + 2 = 73 := ⟨by decide +kernel, rfl⟩
theorem dDI_entryFault_73 : decode b_DI_entryFault 73 = .ok (.lload 7, 2) ∧ 73 + 2 = 75 := ⟨by decide +kernel, rfl⟩
theorem dDI_entryFault_75 : decode b_DI_entryFault 75 = .ok (.ladd, 1) ∧ 75 + 1 = 76 := ⟨by decide +kernel, rfl⟩
theorem dDI_entryFault_76 : decode b_DI_entryFault 76 = .ok (.aload_n 0, 1) ∧ 76 + 1 = 77 := ⟨by decide +kernel, rfl⟩
theorem dDI_entryFault_77 : decode b_DI_entryFault 77 = .ok (.getfield 27, 3) ∧ 77 + 3 = 80 := ⟨by decide +kernel, rfl⟩
theorem dDI_entryFault_80 : decode b_DI_entryFault 80 = .ok (.getfield 85, 3) ∧ 80 + 3 = 83 := ⟨by decide +kernel, rfl⟩
theorem dDI_entryFault_83 : decode b_DI_entryFault 83 = .ok (.i2l, 1) ∧ 83 + 1 = 84 := ⟨by decide +kernel, rfl⟩
theorem dDI_entryFault_84 : decode b_DI_entryFault 84 = .ok (.lcmp, 1) ∧ 84 + 1 = 85 := ⟨by decide +kernel, rfl⟩
theorem dDI_entryFault_85 : decode b_DI_entryFault 85 = .ok (.ifCond .gt (19), 3) ∧ 85 + 3 = 88 ∧ ((85 : Nat) : Int) + (19) = ((104 : Nat) : Int) := ⟨by decide +kernel, rfl, by decide⟩
theorem dDI_entryFault_88 : decode b_DI_entryFault 88 = .ok (.lload 7, 2) ∧ 88 + 2 = 90 := ⟨by decide +kernel, rfl⟩
theorem dDI_entryFault_90 : decode b_DI_entryFault 90 = .ok (.lconst 0, 1) ∧ 90 + 1 = 91 := ⟨by decide +kernel, rfl⟩
theorem dDI_entryFault_91 : decode b_DI_entryFault 91 = .ok (.lcmp, 1) ∧ 91 + 1 = 92 := ⟨by decide +kernel, rfl⟩
theorem dDI_entryFault_92 : decode b_DI_entryFault 92 = .ok (.ifCond .le (21), 3) ∧ 92 + 3 = 95 ∧ ((92 : Nat) : Int) + (21) = ((113 : Nat) : Int) := ⟨by decide +kernel, rfl, by decide⟩
theorem dDI_entryFault_95 : decode b_DI_entryFault 95 = .ok (.lload 5, 2) ∧ 95 + 2 = 97 := ⟨by decide +kernel, rfl⟩
theorem dDI_entryFault_97 : decode b_DI_entryFault 97 = .ok (.ldc2_w 101, 3) ∧ 97 + 3 = 100 := ⟨by decide +kernel, rfl⟩
theorem dDI_entryFault_100 : decode b_DI_entryFault 100 = .ok (.lcmp, 1) ∧ 100 + 1 = 101 := ⟨by decide +kernel, rfl⟩
theorem dDI_entryFault_101 : decode b_DI_entryFault 101 = .ok (.ifCond .ge (12), 3) ∧ 101 + 3 = 104 ∧ ((101 : Nat) : Int) + (12) = ((113 : Nat) : Int) := ⟨by decide +kernel, rfl, by decide⟩
theorem dDI_entryFault_104 : decode b_DI_entryFault 104 = .ok (.aload_n 0, 1) ∧ 104 + 1 = 105 := ⟨by decide +kernel, rfl⟩
theorem dDI_entryFault_105 : decode b_DI_entryFault 105 = .ok (.bipush (12), 2) ∧ 105 + 2 = 107 := ⟨by decide +kernel, rfl⟩
theorem dDI_entryFault_107 : decode b_DI_entryFault 107 = .ok (.iload_n 1, 1) ∧ 107 + 1 = 108 := ⟨by decide +kernel, rfl⟩
theorem dDI_entryFault_108 : decode b_DI_entryFault 108 = .ok (.iconst 4, 1) ∧ 108 + 1 = 109 := ⟨by decide +kernel, rfl⟩
theorem dDI_entryFault_109 : decode b_DI_entryFault 109 = .ok (.invokevirtual 112, 3) ∧ 109 + 3 = 112 := ⟨by decide +kernel, rfl⟩
theorem dDI_entryFault_112 : decode b_DI_entryFault 112 = .ok (.ireturn, 1) ∧ 112 + 1 = 113 := ⟨by decide +kernel, rfl⟩
theorem dDI_entryFault_113 : decode b_DI_entryFault 113 = .ok (.aload_n 0, 1) ∧ 113 + 1 = 114 := ⟨by decide +kernel, rfl⟩
theorem dDI_entryFault_114 : decode b_DI_entryFault 114 = .ok (.iload_n 1, 1) ∧ 114 + 1 = 115 := ⟨by decide +kernel, rfl⟩
theorem dDI_entryFault_115 : decode b_DI_entryFault 115 = .ok (.bipush (8), 2) ∧ 115 + 2 = 117 := ⟨by decide +kernel, rfl⟩
theorem dDI_entryFault_117 : decode b_DI_entryFault 117 = .ok (.invokevirtual 108, 3) ∧ 117 + 3 = 120 := ⟨by decide +kernel, rfl⟩
theorem dDI_entryFault_120 : decode b_DI_entryFault 120 = .ok (.lstore 9, 2) ∧ 120 + 2 = 122 := ⟨by decide +kernel, rfl⟩
theorem dDI_entryFault_122 : decode b_DI_entryFault 122 = .ok (.lload 9, 2) ∧ 122 + 2 = 124 := ⟨by decide +kernel, rfl⟩
theorem dDI_entryFault_124 : decode b_DI_entryFault 124 = .ok (.invokestatic 121, 3) ∧ 124 + 3 = 127 := ⟨by decide +kernel, rfl⟩
theorem dDI_entryFault_127 : decode b_DI_entryFault 127 = .ok (.ifCond .eq (20), 3) ∧ 127 + 3 = 130 ∧ ((127 : Nat) : Int) + (20) = ((147 : Nat) : Int) := ⟨by decide +kernel, rfl, by decide⟩
theorem dDI_entryFault_130 : decode b_DI_entryFault 130 = .ok (.iload 4, 2) ∧ 130 + 2 = 132 := ⟨by decide +kernel, rfl⟩
theorem dDI_entryFault_132 : decode b_DI_entryFault 132 = .ok (.ifCond .eq (25), 3) ∧ 132 + 3 = 135 ∧ ((132 : Nat) : Int) + (25) = ((157 : Nat) : Int) := ⟨by decide +kernel, rfl, by decide⟩
theorem dDI_entryFault_135 : decode b_DI_entryFault 135 = .ok (.lload 5, 2) ∧ 135 + 2 = 137 := ⟨by decide +kernel, rfl⟩
theorem dDI_entryFault_137 : decode b_DI_entryFault 137 = .ok (.lload 9, 2) ∧ 137 + 2 = 139 := ⟨by decide +kernel, rfl⟩
theorem dDI_entryFault_139 : decode b_DI_entryFault 139 = .ok (.lconst 1, 1) ∧ 139 + 1 = 140 := ⟨by decide +kernel, rfl⟩
theorem dDI_entryFault_140 : decode b_DI_entryFault 140 = .ok (.lsub, 1) ∧ 140 + 1 = 141 := ⟨by decide +kernel, rfl⟩
theorem dDI_entryFault_141 : decode b_DI_entryFault 141 = .ok (.land, 1) ∧ 141 + 1 = 142 := ⟨by decide +kernel, rfl⟩
theorem dDI_entryFault_142 : decode b_DI_entryFault 142 = .ok (.lconst 0, 1) ∧ 142 + 1 = 143 := ⟨by decide +kernel, rfl⟩
theorem dDI_entryFault_143 : decode b_DI_entryFault 143 = .ok (.lcmp, 1) ∧ 143 + 1 = 144 := ⟨by decide +kernel, rfl⟩
theorem dDI_entryFault_144 : decode b_DI_entryFault 144 = .ok (.ifCond .eq (13), 3) ∧ 144 + 3 = 147 ∧ ((144 : Nat) : Int) + (13) = ((157 : Nat) : Int) := ⟨by decide +kernel, rfl, by decide⟩
theorem dDI_entryFault_147 : decode b_DI_entryFault 147 = .ok (.aload_n 0, 1) ∧ 147 + 1 = 148 := ⟨by decide +kernel, rfl⟩
theorem dDI_entryFault_148 : decode b_DI_entryFault 148 = .ok (.bipush (13), 2) ∧ 148 + 2 = 150 := ⟨by decide +kernel, rfl⟩
theorem dDI_entryFault_150 : decode b_DI_entryFault 150 = .ok (.iload_n 1, 1) ∧ 150 + 1 = 151 := ⟨by decide +kernel, rfl⟩
theorem dDI_entryFault_151 : decode b_DI_entryFault 151 = .ok (.bipush (8), 2) ∧ 151 + 2 = 153 := ⟨by decide +kernel, rfl⟩
theorem dDI_entryFault_153 : decode b_DI_entryFault 153 = .ok (.invokevirtual 112, 3) ∧ 153 + 3 = 156 := ⟨by decide +kernel, rfl⟩
theorem dDI_entryFault_156 : decode b_DI_entryFault 156 = .ok (.ireturn, 1) ∧ 156 + 1 = 157 := ⟨by decide +kernel, rfl⟩
theorem dDI_entryFault_157 : decode b_DI_entryFault 157 = .ok (.iload 4, 2) ∧ 157 + 2 = 159 := ⟨by decide +kernel, rfl⟩
theorem dDI_entryFault_159 : decode b_DI_entryFault 159 = .ok (.ifCond .eq (36), 3) ∧ 159 + 3 = 162 ∧ ((159 : Nat) : Int) + (36) = ((195 : Nat) : Int) := ⟨by decide +kernel, rfl, by decide⟩
theorem dDI_entryFault_162 : decode b_DI_entryFault 162 = .ok (.lload 7, 2) ∧ 162 + 2 = 164 := ⟨by decide +kernel, rfl⟩
theorem dDI_entryFault_164 : decode b_DI_entryFault 164 = .ok (.lconst 0, 1) ∧ 164 + 1 = 165 := ⟨by decide +kernel, rfl⟩
theorem dDI_entryFault_165 : decode b_DI_entryFault 165 = .ok (.lcmp, 1) ∧ 165 + 1 = 166 := ⟨by decide +kernel, rfl⟩
theorem dDI_entryFault_166 : decode b_DI_entryFault 166 = .ok (.ifCond .le (29), 3) ∧ 166 + 3 = 169 ∧ ((166 : Nat) : Int) + (29) = ((195 : Nat) : Int) := ⟨by decide +kernel, rfl, by decide⟩
theorem dDI_entryFault_169 : decode b_DI_entryFault 169 = .ok (.aload_n 0, 1) ∧ 169 + 1 = 170 := ⟨by decide +kernel, rfl⟩
theorem dDI_entryFault_170 : decode b_DI_entryFault 170 = .ok (.iload_n 1, 1) ∧ 170 + 1 = 171 := ⟨by decide +kernel, rfl⟩
theorem dDI_entryFault_171 : decode b_DI_entryFault 171 = .ok (.lload 5, 2) ∧ 171 + 2 = 173 := ⟨by decide +kernel, rfl⟩
theorem dDI_entryFault_173 : decode b_DI_entryFault 173 = .ok (.lload 5, 2) ∧ 173 + 2 = 175 := ⟨by decide +kernel, rfl⟩
theorem dDI_entryFault_175 : decode b_DI_entryFault 175 = .ok (.lload 7, 2) ∧ 175 + 2 = 177 := ⟨by decide +kernel, rfl⟩
theorem dDI_entryFault_177 : decode b_DI_entryFault 177 = .ok (.ladd, 1) ∧ 177 + 1 = 178 := ⟨by decide +kernel, rfl⟩
theorem dDI_entryFault_178 : decode b_DI_entryFault 178 = .ok (.invokevirtual 125, 3) ∧ 178 + 3 = 181 := ⟨by decide +kernel, rfl⟩
theorem dDI_entryFault_181 : decode b_DI_entryFault 181 = .ok (.ifCond .eq (14), 3) ∧ 181 + 3 = 184 ∧ ((181 : Nat) : Int) + (14) = ((195 : Nat) : Int) := ⟨by decide +kernel, rfl, by decide⟩
theorem dDI_entryFault_184 : decode b_DI_entryFault 184 = .ok (.aload_n 0, 1) ∧ 184 + 1 = 185 := ⟨by decide +kernel, rfl⟩
theorem dDI_entryFault_185 : decode b_DI_entryFault 185 = .ok (.bipush (14), 2) ∧ 185 + 2 = 187 := ⟨by decide +kernel, rfl⟩
theorem dDI_entryFault_187 : decode b_DI_entryFault 187 = .ok (.iload_n 1, 1) ∧ 187 + 1 = 188 := ⟨by decide +kernel, rfl⟩
theorem dDI_entryFault_188 : decode b_DI_entryFault 188 = .ok (.iconst 4, 1) ∧ 188 + 1 = 189 := ⟨by decide +kernel, rfl⟩
theorem dDI_entryFault_189 : decode b_DI_entryFault 189 = .ok (.invokevirtual 112, 3) ∧ 189 + 3 = 192 := ⟨by decide +kernel, rfl⟩
theorem dDI_entryFault_192 : decode b_DI_entryFault 192 = .ok (.goto (4), 3) ∧ 192 + 3 = 195 ∧ ((192 : Nat) : Int) + (4) = ((196 : Nat) : Int) := ⟨by decide +kernel, rfl, by decide⟩
theorem dDI_entryFault_195 : decode b_DI_entryFault 195 = .ok (.iconst 0, 1) ∧ 195 + 1 = 196 := ⟨by decide +kernel, rfl⟩
theorem dDI_entryFault_196 : decode b_DI_entryFault 196 = .ok (.ireturn, 1) ∧ 196 + 1 = 197 := ⟨by decide +kernel, rfl⟩
theorem dDI_entriesFault_0 : decode b_DI_entriesFault 0 = .ok (.iconst 0, 1) ∧ 0 + 1 = 1 := ⟨by decide +kernel, rfl⟩
theorem dDI_entriesFault_1 : decode b_DI_entriesFault 1 = .ok (.istore_n 1, 1) ∧ 1 + 1 = 2 := ⟨by decide +kernel, rfl⟩
theorem dDI_entriesFault_2 : decode b_DI_entriesFault 2 = .ok (.iload_n 1, 1) ∧ 2 + 1 = 3 := ⟨by decide +kernel, rfl⟩
theorem dDI_entriesFault_3 : decode b_DI_entriesFault 3 = .ok (.bipush (10), 2) ∧ 3 + 2 = 5 := ⟨by decide +kernel, rfl⟩
theorem dDI_entriesFault_5 : decode b_DI_entriesFault 5 = .ok (.if_icmp .ge (29), 3) ∧ 5 + 3 = 8 ∧ ((5 : Nat) : Int) + (29) = ((34 : Nat) : Int) := ⟨by decide +kernel, rfl, by decide⟩
theorem dDI_entriesFault_8 : decode b_DI_entriesFault 8 = .ok (.aload_n 0, 1) ∧ 8 + 1 = 9 := ⟨by decide +kernel, rfl⟩
theorem dDI_entriesFault_9 : decode b_DI_entriesFault 9 = .ok (.iconst 0, 1) ∧ 9 + 1 = 10 := ⟨by decide +kernel, rfl⟩
theorem dDI_entriesFault_10 : decode b_DI_entriesFault 10 = .ok (.iload_n 1, 1) ∧ 10 + 1 = 11 := ⟨by decide +kernel, rfl⟩
theorem dDI_entriesFault_11 : decode b_DI_entriesFault 11 = .ok (.invokevirtual 108, 3) ∧ 11 + 3 = 14 := ⟨by decide +kernel, rfl⟩
theorem dDI_entriesFault_14 : decode b_DI_entriesFault 14 = .ok (.lconst 0, 1) ∧ 14 + 1 = 15 := ⟨by decide +kernel, rfl⟩
theorem dDI_entriesFault_15 : decode b_DI_entriesFault 15 = .ok (.lcmp, 1) ∧ 15 + 1 = 16 := ⟨by decide +kernel, rfl⟩
theorem dDI_entriesFault_16 : decode b_DI_entriesFault 16 = .ok (.ifCond .eq (12), 3) ∧ 16 + 3 = 19 ∧ ((16 : Nat) : Int) + (12) = ((28 : Nat) : Int) := ⟨by decide +kernel, rfl, by decide⟩
theorem dDI_entriesFault_19 : decode b_DI_entriesFault 19 = .ok (.aload_n 0, 1) ∧ 19 + 1 = 20 := ⟨by decide +kernel, rfl⟩
theorem dDI_entriesFault_20 : decode b_DI_entriesFault 20 = .ok (.bipush (11), 2) ∧ 20 + 2 = 22 := ⟨by decide +kernel, rfl⟩
theorem dDI_entriesFault_22 : decode b_DI_entriesFault 22 = .ok (.iconst 0, 1) ∧ 22 + 1 = 23 := ⟨by decide +kernel, rfl⟩
theorem dDI_entriesFault_23 : decode b_DI_entriesFault 23 = .ok (.iload_n 1, 1) ∧ 23 + 1 = 24 := ⟨by decide +kernel, rfl⟩
theorem dDI_entriesFault_24 : decode b_DI_entriesFault 24 = .ok (.invokevirtual 112, 3) ∧ 24 + 3 = 27 := ⟨by decide +kernel, rfl⟩
theorem dDI_entriesFault_27 : decode b_DI_entriesFault 27 = .ok (.ireturn, 1) ∧ 27 + 1 = 28 := ⟨by decide +kernel, rfl⟩
theorem dDI_entriesFault_28 : decode b_DI_entriesFault 28 = .ok (.iinc 1 (1), 3) ∧ 28 + 3 = 31 := ⟨by decide +kernel, rfl⟩
theorem dDI_entriesFault_31 : decode b_DI_entriesFault 31 = .ok (.goto (-29), 3) ∧ 31 + 3 = 34 ∧ ((31 : Nat) : Int) + (-29) = ((2 : Nat) : Int) := ⟨by decide +kernel, rfl, by decide⟩
theorem dDI_entriesFault_34 : decode b_DI_entriesFault 34 = .ok (.iconst 1, 1) ∧ 34 + 1 = 35 := ⟨by decide +kernel, rfl⟩
theorem dDI_entriesFault_35 : decode b_DI_entriesFault 35 = .ok (.istore_n 1, 1) ∧ 35 + 1 = 36 := ⟨by decide +kernel, rfl⟩
theorem dDI_entriesFault_36 : decode b_DI_entriesFault 36 = .ok (.iload_n 1, 1) ∧ 36 + 1 = 37 := ⟨by decide +kernel, rfl⟩
theorem dDI_entriesFault_37 : decode b_DI_entriesFault 37 = .ok (.aload_n 0, 1) ∧ 37 + 1 = 38 := ⟨by decide +kernel, rfl⟩
theorem dDI_entriesFault_38 : decode b_DI_entriesFault 38 = .ok (.getfield 51, 3) ∧ 38 + 3 = 41 := ⟨by decide +kernel, rfl⟩
theorem dDI_entriesFault_41 : decode b_DI_entriesFault 41 = .ok (.if_icmp .ge (21), 3) ∧ 41 + 3 = 44 ∧ ((41 : Nat) : Int) + (21) = ((62 : Nat) : Int) := ⟨by decide +kernel, rfl, by decide⟩
theorem dDI_entriesFault_44 : decode b_DI_entriesFault 44 = .ok (.aload_n 0, 1) ∧ 44 + 1 = 45 := ⟨by decide +kernel, rfl⟩
theorem dDI_entriesFault_45 : decode b_DI_entriesFault 45 = .ok (.iload_n 1, 1) ∧ 45 + 1 = 46 := ⟨by decide +kernel, rfl⟩
theorem dDI_entriesFault_46 : decode b_DI_entriesFault 46 = .ok (.invokevirtual 116, 3) ∧ 46 + 3 = 49 := ⟨by decide +kernel, rfl⟩
theorem dDI_entriesFault_49 : decode b_DI_entriesFault 49 = .ok (.istore_n 2, 1) ∧ 49 + 1 = 50 := ⟨by decide +kernel, rfl⟩
theorem dDI_entriesFault_50 : decode b_DI_entriesFault 50 = .ok (.iload_n 2, 1) ∧ 50 + 1 = 51 := ⟨by decide +kernel, rfl⟩
theorem dDI_entriesFault_51 : decode b_DI_entriesFault 51 = .ok (.ifCond .eq (5), 3) ∧ 51 + 3 = 54 ∧ ((51 : Nat) : Int) + (5) = ((56 : Nat) : Int) := ⟨by decide +kernel, rfl, by decide⟩
theorem dDI_entriesFault_54 : decode b_DI_entriesFault 54 = .ok (.iload_n 2, 1) ∧ 54 + 1 = 55 := ⟨by decide +kernel, rfl⟩
theorem dDI_entriesFault_55 : decode b_DI_entriesFault 55 = .ok (.ireturn, 1) ∧ 55 + 1 = 56 := ⟨by decide +kernel, rfl⟩
theorem dDI_entriesFault_56 : decode b_DI_entriesFault 56 = .ok (.iinc 1 (1), 3) ∧ 56 + 3 = 59 := ⟨by decide +kernel, rfl⟩
theorem dDI_entriesFault_59 : decode b_DI_entriesFault 59 = .ok (.goto (-23), 3) ∧ 59 + 3 = 62 ∧ ((59 : Nat) : Int) + (-23) = ((36 : Nat) : Int) := ⟨by decide +kernel, rfl, by decide⟩
theorem dDI_entriesFault_62 : decode b_DI_entriesFault 62 = .ok (.iconst 0, 1) ∧ 62 + 1 = 63 := ⟨by decide +kernel, rfl⟩
theorem dDI_entriesFault_63 : decode b_DI_entriesFault 63 = .ok (.ireturn, 1) ∧ 63 + 1 = 64 := ⟨by decide +kernel, rfl⟩
theorem dDI_stringsFault_0 : decode b_DI_stringsFault 0 = .ok (.aload_n 0, 1) ∧ 0 + 1 = 1 := ⟨by decide +kernel, rfl⟩
theorem dDI_stringsFault_1 : decode b_DI_stringsFault 1 = .ok (.iload_n 2, 1) ∧ 1 + 1 = 2 := ⟨by decide +kernel, rfl⟩
theorem dDI_stringsFault_2 : decode b_DI_stringsFault 2 = .ok (.iconst 1, 1) ∧ 2 + 1 = 3 := ⟨by decide +kernel, rfl⟩
theorem dDI_stringsFault_3 : decode b_DI_stringsFault 3 = .ok (.invokevirtual 108, 3) ∧ 3 + 3 = 6 := ⟨by decide +kernel, rfl⟩
theorem dDI_stringsFault_6 : decode b_DI_stringsFault 6 = .ok (.ldc2_w 129, 3) ∧ 6 + 3 = 9 := ⟨by decide +kernel, rfl⟩
theorem dDI_stringsFault_9 : decode b_DI_stringsFault 9 = .ok (.lcmp, 1) ∧ 9 + 1 = 10 := ⟨by decide +kernel, rfl⟩
theorem dDI_stringsFault_10 : decode b_DI_stringsFault 10 = .ok (.ifCond .eq (11), 3) ∧ 10 + 3 = 13 ∧ ((10 : Nat) : Int) + (11) = ((21 : Nat) : Int) := ⟨by decide +kernel, rfl, by decide⟩
theorem dDI_stringsFault_13 : decode b_DI_stringsFault 13 = .ok (.aload_n 0, 1) ∧ 13 + 1 = 14 := ⟨by decide +kernel, rfl⟩
theorem dDI_stringsFault_14 : decode b_DI_stringsFault 14 = .ok (.iload_n 1, 1) ∧ 14 + 1 = 15 := ⟨by decide +kernel, rfl⟩
theorem dDI_stringsFault_15 : decode b_DI_stringsFault 15 = .ok (.iload_n 2, 1) ∧ 15 + 1 = 16 := ⟨by decide +kernel, rfl⟩
theorem dDI_stringsFault_16 : decode b_DI_stringsFault 16 = .ok (.iconst 1, 1) ∧ 16 + 1 = 17 := ⟨by decide +kernel, rfl⟩
theorem dDI_stringsFault_17 : decode b_DI_stringsFault 17 = .ok (.invokevirtual 112, 3) ∧ 17 + 3 = 20 := ⟨by decide +kernel, rfl⟩
theorem dDI_stringsFault_20 : decode b_DI_stringsFault 20 = .ok (.ireturn, 1) ∧ 20 + 1 = 21 := ⟨by decide +kernel, rfl⟩
theorem dDI_stringsFault_21 : decode b_DI_stringsFault 21 = .ok (.aload_n 0, 1) ∧ 21 + 1 = 22 := ⟨by decide +kernel, rfl⟩
theorem dDI_stringsFault_22 : decode b_DI_stringsFault 22 = .ok (.iload_n 2, 1) ∧ 22 + 1 = 23 := ⟨by decide +kernel, rfl⟩
theorem dDI_stringsFault_23 : decode b_DI_stringsFault 23 = .ok (.iconst 4, 1) ∧ 23 + 1 = 24 := ⟨by decide +kernel, rfl⟩
theorem dDI_stringsFault_24 : decode b_DI_stringsFault 24 = .ok (.invokevirtual 108, 3) ∧ 24 + 3 = 27 := ⟨by decide +kernel, rfl⟩
theorem dDI_stringsFault_27 : decode b_DI_stringsFault 27 = .ok (.l2i, 1) ∧ 27 + 1 = 28 := ⟨by decide +kernel, rfl⟩
theorem dDI_stringsFault_28 : decode b_DI_stringsFault 28 = .ok (.istore_n 3, 1) ∧ 28 + 1 = 29 := ⟨by decide +kernel, rfl⟩
theorem dDI_stringsFault_29 : decode b_DI_stringsFault 29 = .ok (.aload_n 0, 1) ∧ 29 + 1 = 30 := ⟨by decide +kernel, rfl⟩
theorem dDI_stringsFault_30 : decode b_DI_stringsFault 30 = .ok (.iload_n 2, 1) ∧ 30 + 1 = 31 := ⟨by decide +kernel, rfl⟩
theorem dDI_stringsFault_31 : decode b_DI_stringsFault 31 = .ok (.iconst 5, 1) ∧ 31 + 1 = 32 := ⟨by decide +kernel, rfl⟩
theorem dDI_stringsFault_32 : decode b_DI_stringsFault 32 = .ok (.invokevirtual 108, 3) ∧ 32 + 3 = 35 := ⟨by decide +kernel, rfl⟩
theorem dDI_stringsFault_35 : decode b_DI_stringsFault 35 = .ok (.l2i, 1) ∧ 35 + 1 = 36 := ⟨by decide +kernel, rfl⟩
theorem dDI_stringsFault_36 : decode b_DI_stringsFault 36 = .ok (.istore 4, 2) ∧ 36 + 2 = 38 := ⟨by decide +kernel, rfl⟩
theorem dDI_stringsFault_38 : decode b_DI_stringsFault 38 = .ok (.iload 4, 2) ∧ 38 + 2 = 40 := ⟨by decide +kernel, rfl⟩
theorem dDI_stringsFault_40 : decode b_DI_stringsFault 40 = .ok (.ifCond .ne (11), 3) ∧ 40 + 3 = 43 ∧ ((40 : Nat) : Int) + (11) = ((51 : Nat) : Int) := ⟨by decide +kernel, rfl, by decide⟩
theorem dDI_stringsFault_43 : decode b_DI_stringsFault 43 = .ok (.aload_n 0, 1) ∧ 43 + 1 = 44 := ⟨by decide +kernel, rfl⟩
theorem dDI_stringsFault_44 : decode b_DI_stringsFault 44 = .ok (.iload_n 1, 1) ∧ 44 + 1 = 45 := ⟨by decide +kernel, rfl⟩
theorem dDI_stringsFault_45 : decode b_DI_stringsFault 45 = .ok (.iload_n 2, 1) ∧ 45 + 1 = 46 := ⟨by decide +kernel, rfl⟩
theorem dDI_stringsFault_46 : decode b_DI_stringsFault 46 = .ok (.iconst 5, 1) ∧ 46 + 1 = 47 := ⟨by decide +kernel, rfl⟩
theorem dDI_stringsFault_47 : decode b_DI_stringsFault 47 = .ok (.invokevirtual 112, 3) ∧ 47 + 3 = 50 := ⟨by decide +kernel, rfl⟩
theorem dDI_stringsFault_50 : decode b_DI_stringsFault 50 = .ok (.ireturn, 1) ∧ 50 + 1 = 51 := ⟨by decide +kernel, rfl⟩
theorem dDI_stringsFault_51 : decode b_DI_stringsFault 51 = .ok (.aload_n 0, 1) ∧ 51 + 1 = 52 := ⟨by decide +kernel, rfl⟩
theorem dDI_stringsFault_52 : decode b_DI_stringsFault 52 = .ok (.getfield 27, 3) ∧ 52 + 3 = 55 := ⟨by decide +kernel, rfl⟩
theorem dDI_stringsFault_55 : decode b_DI_stringsFault 55 = .ok (.iload_n 3, 1) ∧ 55 + 1 = 56 := ⟨by decide +kernel, rfl⟩
theorem dDI_stringsFault_56 : decode b_DI_stringsFault 56 = .ok (.invokevirtual 91, 3) ∧ 56 + 3 = 59 := ⟨by decide +kernel, rfl⟩
theorem dDI_stringsFault_59 : decode b_DI_stringsFault 59 = .ok (.ifCond .eq (13), 3) ∧ 59 + 3 = 62 ∧ ((59 : Nat) : Int) + (13) = ((72 : Nat) : Int) := ⟨by decide +kernel, rfl, by decide⟩
theorem dDI_stringsFault_62 : decode b_DI_stringsFault 62 = .ok (.aload_n 0, 1) ∧ 62 + 1 = 63 := ⟨by decide +kernel, rfl⟩
theorem dDI_stringsFault_63 : decode b_DI_stringsFault 63 = .ok (.getfield 31, 3) ∧ 63 + 3 = 66 := ⟨by decide +kernel, rfl⟩
theorem dDI_stringsFault_66 : decode b_DI_stringsFault 66 = .ok (.iload_n 1, 1) ∧ 66 + 1 = 67 := ⟨by decide +kernel, rfl⟩
theorem dDI_stringsFault_67 : decode b_DI_stringsFault 67 = .ok (.iload_n 3, 1) ∧ 67 + 1 = 68 := ⟨by decide +kernel, rfl⟩
theorem dDI_stringsFault_68 : decode b_DI_stringsFault 68 = .ok (.invokevirtual 45, 3) ∧ 68 + 3 = 71 := ⟨by decide +kernel, rfl⟩
theorem dDI_stringsFault_71 : decode b_DI_stringsFault 71 = .ok (.ireturn, 1) ∧ 71 + 1 = 72 := ⟨by decide +kernel, rfl⟩
theorem dDI_stringsFault_72 : decode b_DI_stringsFault 72 = .ok (.iload_n 3, 1) ∧ 72 + 1 = 73 := ⟨by decide +kernel, rfl⟩
theorem dDI_stringsFault_73 : decode b_DI_stringsFault 73 = .ok (.iload 4, 2) ∧ 73 + 2 = 75 := ⟨by decide +kernel, rfl⟩
theorem dDI_stringsFault_75 : decode b_DI_stringsFault 75 = .ok (.iadd, 1) ∧ 75 + 1 = 76 := ⟨by decide +kernel, rfl⟩
theorem dDI_stringsFault_76 : decode b_DI_stringsFault 76 = .ok (.iconst 1, 1) ∧ 76 + 1 = 77 := ⟨by decide +kernel, rfl⟩
theorem dDI_stringsFault_77 : decode b_DI_stringsFault 77 = .ok (.isub, 1) ∧ 77 + 1 = 78 := ⟨by decide +kernel, rfl⟩
theorem dDI_stringsFault_78 : decode b_DI_stringsFault 78 = .ok (.istore 5, 2) ∧ 78 + 2 = 80 := ⟨by decide +kernel, rfl⟩
theorem dDI_stringsFault_80 : decode b_DI_stringsFault 80 = .ok (.aload_n 0, 1) ∧ 80 + 1 = 81 := ⟨by decide +kernel, rfl⟩
theorem dDI_stringsFault_81 : decode b_DI_stringsFault 81 = .ok (.getfield 27, 3) ∧ 81 + 3 = 84 := ⟨by decide +kernel, rfl⟩
theorem dDI_stringsFault_84 : decode b_DI_stringsFault 84 = .ok (.iload 5, 2) ∧ 84 + 2 = 86 := ⟨by decide +kernel, rfl⟩
theorem dDI_stringsFault_86 : decode b_DI_stringsFault 86 = .ok (.invokevirtual 91, 3) ∧ 86 + 3 = 89 := ⟨by decide +kernel, rfl⟩
theorem dDI_stringsFault_89 : decode b_DI_stringsFault 89 = .ok (.ifCond .eq (16), 3) ∧ 89 + 3 = 92 ∧ ((89 : Nat) : Int) + (16) = ((105 : Nat) : Int) := ⟨by decide +kernel, rfl, by decide⟩
theorem dDI_stringsFault_92 : decode b_DI_stringsFault 92 = .ok (.aload_n 0, 1) ∧ 92 + 1 = 93 := ⟨by decide +kernel, rfl⟩
theorem dDI_stringsFault_93 : decode b_DI_stringsFault 93 = .ok (.getfield 31, 3) ∧ 93 + 3 = 96 := ⟨by decide +kernel, rfl⟩
theorem dDI_stringsFault_96 : decode b_DI_stringsFault 96 = .ok (.iload_n 1, 1) ∧ 96 + 1 = 97 := ⟨by decide +kernel, rfl⟩
theorem dDI_stringsFault_97 : decode b_DI_stringsFault 97 = .ok (.iload 5, 2) ∧ 97 + 2 = 99 := ⟨by decide +kernel, rfl⟩
theorem dDI_stringsFault_99 : decode b_DI_stringsFault 99 = .ok (.invokevirtual 45, 3) ∧ 99 + 3 = 102 := ⟨by decide +kernel, rfl⟩
theorem dDI_stringsFault_102 : decode b_DI_stringsFault 102 = .ok (.goto (4), 3) ∧ 102 + 3 = 105 ∧ ((102 : Nat) : Int) + (4) = ((106 : Nat) : Int) := ⟨by decide +kernel, rfl, by decide⟩
theorem dDI_stringsFault_105 : decode b_DI_stringsFault 105 = .ok (.iconst 0, 1) ∧ 105 + 1 = 106 := ⟨by decide +kernel, rfl⟩
theorem dDI_stringsFault_106 : decode b_DI_stringsFault 106 = .ok (.ireturn, 1) ∧ 106 + 1 = 107 := ⟨by decide +kernel, rfl⟩
theorem dDI_standsAt_0 : decode b_DI_standsAt 0 = .ok (.aload_n 2, 1) ∧ 0 + 1 = 1 := ⟨by decide +kernel, rfl⟩
theorem dDI_standsAt_1 : decode b_DI_standsAt 1 = .ok (.invokevirtual 148, 3) ∧ 1 + 3 = 4 := ⟨by decide +kernel, rfl⟩
theorem dDI_standsAt_4 : decode b_DI_standsAt 4 = .ok (.istore_n 3, 1) ∧ 4 + 1 = 5 := ⟨by decide +kernel, rfl⟩
theorem dDI_standsAt_5 : decode b_DI_standsAt 5 = .ok (.iconst 0, 1) ∧ 5 + 1 = 6 := ⟨by decide +kernel, rfl⟩
theorem dDI_standsAt_6 : decode b_DI_standsAt 6 = .ok (.istore 4, 2) ∧ 6 + 2 = 8 := ⟨by decide +kernel, rfl⟩
theorem dDI_standsAt_8 : decode b_DI_standsAt 8 = .ok (.iload 4, 2) ∧ 8 + 2 = 10 := ⟨by decide +kernel, rfl⟩
theorem dDI_standsAt_10 : decode b_DI_standsAt 10 = .ok (.iload_n 3, 1) ∧ 10 + 1 = 11 := ⟨by decide +kernel, rfl⟩
theorem dDI_standsAt_11 : decode b_DI_standsAt 11 = .ok (.if_icmp .ge (31), 3) ∧ 11 + 3 = 14 ∧ ((11 : Nat) : Int) + (31) = ((42 : Nat) : Int) := ⟨by decide +kernel, rfl, by decide⟩
theorem dDI_standsAt_14 : decode b_DI_standsAt 14 = .ok (.aload_n 0, 1) ∧ 14 + 1 = 15 := ⟨by decide +kernel, rfl⟩
theorem dDI_standsAt_15 : decode b_DI_standsAt 15 = .ok (.getfield 27, 3) ∧ 15 + 3 = 18 := ⟨by decide +kernel, rfl⟩
theorem dDI_standsAt_18 : decode b_DI_standsAt 18 = .ok (.iload_n 1, 1) ∧ 18 + 1 = 19 := ⟨by decide +kernel, rfl⟩
theorem dDI_standsAt_19 : decode b_DI_standsAt 19 = .ok (.iload 4, 2) ∧ 19 + 2 = 21 := ⟨by decide +kernel, rfl⟩
theorem dDI_standsAt_21 : decode b_DI_standsAt 21 = .ok (.iadd, 1) ∧ 21 + 1 = 22 := ⟨by decide +kernel, rfl⟩
theorem dDI_standsAt_22 : decode b_DI_standsAt 22 = .ok (.invokevirtual 91, 3) ∧ 22 + 3 = 25 := ⟨by decide +kernel, rfl⟩
theorem dDI_standsAt_25 : decode b_DI_standsAt 25 = .ok (.aload_n 2, 1) ∧ 25 + 1 = 26 := ⟨by decide +kernel, rfl⟩
theorem dDI_standsAt_26 : decode b_DI_standsAt 26 = .ok (.iload 4, 2) ∧ 26 + 2 = 28 := ⟨by decide +kernel, rfl⟩
theorem dDI_standsAt_28 : decode b_DI_standsAt 28 = .ok (.invokevirtual 152, 3) ∧ 28 + 3 = 31 := ⟨by decide +kernel, rfl⟩
theorem dDI_standsAt_31 : decode b_DI_standsAt 31 = .ok (.if_icmp .eq (5), 3) ∧ 31 + 3 = 34 ∧ ((31 : Nat) : Int) + (5) = ((36 : Nat) : Int) := ⟨by decide +kernel, rfl, by decide⟩
theorem dDI_standsAt_34 : decode b_DI_standsAt 34 = .ok (.iconst 0, 1) ∧ 34 + 1 = 35 := ⟨by decide +kernel, rfl⟩
theorem dDI_standsAt_35 : decode b_DI_standsAt 35 = .ok (.ireturn, 1) ∧ 35 + 1 = 36 := ⟨by decide +kernel, rfl⟩
theorem dDI_standsAt_36 : decode b_DI_standsAt 36 = .ok (.iinc 4 (1), 3) ∧ 36 + 3 = 39 := ⟨by decide +kernel, rfl⟩
theorem dDI_standsAt_39 : decode b_DI_standsAt 39 = .ok (.goto (-31), 3) ∧ 39 + 3 = 42 ∧ ((39 : Nat) : Int) + (-31) = ((8 : Nat) : Int) := ⟨by decide +kernel, rfl, by decide⟩
theorem dDI_standsAt_42 : decode b_DI_standsAt 42 = .ok (.aload_n 0, 1) ∧ 42 + 1 = 43 := ⟨by decide +kernel, rfl⟩
theorem dDI_standsAt_43 : decode b_DI_standsAt 43 = .ok (.getfield 27, 3) ∧ 43 + 3 = 46 := ⟨by decide +kernel, rfl⟩
theorem dDI_standsAt_46 : decode b_DI_standsAt 46 = .ok (.iload_n 1, 1) ∧ 46 + 1 = 47 := ⟨by decide +kernel, rfl⟩
theorem dDI_standsAt_47 : decode b_DI_standsAt 47 = .ok (.iload_n 3, 1) ∧ 47 + 1 = 48 := ⟨by decide +kernel, rfl⟩
theorem dDI_standsAt_48 : decode b_DI_standsAt 48 = .ok (.iadd, 1) ∧ 48 + 1 = 49 := ⟨by decide +kernel, rfl⟩
theorem dDI_standsAt_49 : decode b_DI_standsAt 49 = .ok (.invokevirtual 91, 3) ∧ 49 + 3 = 52 := ⟨by decide +kernel, rfl⟩
theorem dDI_standsAt_52 : decode b_DI_standsAt 52 = .ok (.ifCond .ne (7), 3) ∧ 52 + 3 = 55 ∧ ((52 : Nat) : Int) + (7) = ((59 : Nat) : Int) := ⟨by decide +kernel, rfl, by decide⟩
theorem dDI_standsAt_55 : decode b_DI_standsAt 55 = .ok (.iconst 1, 1) ∧ 55 + 1 = 56 := ⟨by decide +kernel, rfl⟩
theorem dDI_standsAt_56 : decode b_DI_standsAt 56 = .ok (.goto (4), 3) ∧ 56 + 3 = 59 ∧ ((56 : Nat) : Int) + (4) = ((60 : Nat) : Int) := ⟨by decide +kernel, rfl, by decide⟩
theorem dDI_standsAt_59 : decode b_DI_standsAt 59 = .ok (.iconst 0, 1) ∧ 59 + 1 = 60 := ⟨by decide +kernel, rfl⟩
theorem dDI_standsAt_60 : decode b_DI_standsAt 60 = .ok (.ireturn, 1) ∧ 60 + 1 = 61 := ⟨by decide +kernel, rfl⟩
theorem dDI_partNamedBy_0 : decode b_DI_partNamedBy 0 = .ok (.aload_n 0, 1) ∧ 0 + 1 = 1 := ⟨by decide +kernel, rfl⟩
theorem dDI_partNamedBy_1 : decode b_DI_partNamedBy 1 = .ok (.iload_n 1, 1) ∧ 1 + 1 = 2 := ⟨by decide +kernel, rfl⟩
theorem dDI_partNamedBy_2 : decode b_DI_partNamedBy 2 = .ok (.iconst 0, 1) ∧ 2 + 1 = 3 := ⟨by decide +kernel, rfl⟩
theorem dDI_partNamedBy_3 : decode b_DI_partNamedBy 3 = .ok (.invokevirtual 108, 3) ∧ 3 + 3 = 6 := ⟨by decide +kernel, rfl⟩
theorem dDI_partNamedBy_6 : decode b_DI_partNamedBy 6 = .ok (.lstore_n 2, 1) ∧ 6 + 1 = 7 := ⟨by decide +kernel, rfl⟩
theorem dDI_partNamedBy_7 : decode b_DI_partNamedBy 7 = .ok (.lload_n 2, 1) ∧ 7 + 1 = 8 := ⟨by decide +kernel, rfl⟩
theorem dDI_partNamedBy_8 : decode b_DI_partNamedBy 8 = .ok (.aload_n 0, 1) ∧ 8 + 1 = 9 := ⟨by decide +kernel, rfl⟩
theorem dDI_partNamedBy_9 : decode b_DI_partNamedBy 9 = .ok (.aload_n 0, 1) ∧ 9 + 1 = 10 := ⟨by decide +kernel, rfl⟩
theorem dDI_partNamedBy_10 : decode b_DI_partNamedBy 10 = .ok (.getfield 64, 3) ∧ 10 + 3 = 13 := ⟨by decide +kernel, rfl⟩
theorem dDI_partNamedBy_13 : decode b_DI_partNamedBy 13 = .ok (.iconst 5, 1) ∧ 13 + 1 = 14 := ⟨by decide +kernel, rfl⟩
theorem dDI_partNamedBy_14 : decode b_DI_partNamedBy 14 = .ok (.invokevirtual 108, 3) ∧ 14 + 3 = 17 := ⟨by decide +kernel, rfl⟩
theorem dDI_partNamedBy_17 : decode b_DI_partNamedBy 17 = .ok (.lcmp, 1) ∧ 17 + 1 = 18 := ⟨by decide +kernel, rfl⟩
theorem dDI_partNamedBy_18 : decode b_DI_partNamedBy 18 = .ok (.ifCond .lt (5), 3) ∧ 18 + 3 = 21 ∧ ((18 : Nat) : Int) + (5) = ((23 : Nat) : Int) := ⟨by decide +kernel, rfl, by decide⟩
theorem dDI_partNamedBy_21 : decode b_DI_partNamedBy 21 = .ok (.iconst (-1), 1) ∧ 21 + 1 = 22 := ⟨by decide +kernel, rfl⟩
theorem dDI_partNamedBy_22 : decode b_DI_partNamedBy 22 = .ok (.ireturn, 1) ∧ 22 + 1 = 23 := ⟨by decide +kernel, rfl⟩
theorem dDI_partNamedBy_23 : decode b_DI_partNamedBy 23 = .ok (.aload_n 0, 1) ∧ 23 + 1 = 24 := ⟨by decide +kernel, rfl⟩
theorem dDI_partNamedBy_24 : decode b_DI_partNamedBy 24 = .ok (.aload_n 0, 1) ∧ 24 + 1 = 25 := ⟨by decide +kernel, rfl⟩
theorem dDI_partNamedBy_25 : decode b_DI_partNamedBy 25 = .ok (.getfield 64, 3) ∧ 25 + 3 = 28 := ⟨by decide +kernel, rfl⟩
theorem dDI_partNamedBy_28 : decode b_DI_partNamedBy 28 = .ok (.iconst 4, 1) ∧ 28 + 1 = 29 := ⟨by decide +kernel, rfl⟩
theorem dDI_partNamedBy_29 : decode b_DI_partNamedBy 29 = .ok (.invokevirtual 108, 3) ∧ 29 + 3 = 32 := ⟨by decide +kernel, rfl⟩
theorem dDI_partNamedBy_32 : decode b_DI_partNamedBy 32 = .ok (.lload_n 2, 1) ∧ 32 + 1 = 33 := ⟨by decide +kernel, rfl⟩
theorem dDI_partNamedBy_33 : decode b_DI_partNamedBy 33 = .ok (.ladd, 1) ∧ 33 + 1 = 34 := ⟨by decide +kernel, rfl⟩
theorem dDI_partNamedBy_34 : decode b_DI_partNamedBy 34 = .ok (.l2i, 1) ∧ 34 + 1 = 35 := ⟨by decide +kernel, rfl⟩
theorem dDI_partNamedBy_35 : decode b_DI_partNamedBy 35 = .ok (.istore 4, 2) ∧ 35 + 2 = 37 := ⟨by decide +kernel, rfl⟩
theorem dDI_partNamedBy_37 : decode b_DI_partNamedBy 37 = .ok (.iconst 0, 1) ∧ 37 + 1 = 38 := ⟨by decide +kernel, rfl⟩
theorem dDI_partNamedBy_38 : decode b_DI_partNamedBy 38 = .ok (.istore 5, 2) ∧ 38 + 2 = 40 := ⟨by decide +kernel, rfl⟩
theorem dDI_partNamedBy_40 : decode b_DI_partNamedBy 40 = .ok (.iload 5, 2) ∧ 40 + 2 = 42 := ⟨by decide +kernel, rfl⟩
theorem dDI_partNamedBy_42 : decode b_DI_partNamedBy 42 = .ok (.bipush (11), 2) ∧ 42 + 2 = 44 := ⟨by decide +kernel, rfl⟩
theorem dDI_partNamedBy_44 : decode b_DI_partNamedBy 44 = .ok (.if_icmp .ge (26), 3) ∧ 44 + 3 = 47 ∧ ((44 : Nat) : Int) + (26) = ((70 : Nat) : Int) := ⟨by decide +kernel, rfl, by decide⟩
theorem dDI_partNamedBy_47 : decode b_DI_partNamedBy 47 = .ok (.aload_n 0, 1) ∧ 47 + 1 = 48 := ⟨by decide +kernel, rfl⟩
theorem dDI_partNamedBy_48 : decode b_DI_partNamedBy 48 = .ok (.iload 4, 2) ∧ 48 + 2 = 50 := ⟨by decide +kernel, rfl⟩
theorem dDI_partNamedBy_50 : decode b_DI_partNamedBy 50 = .ok (.iload 5, 2) ∧ 50 + 2 = 52 := ⟨by decide +kernel, rfl⟩
theorem dDI_partNamedBy_52 : decode b_DI_partNamedBy 52 = .ok (.invokestatic 140, 3) ∧ 52 + 3 = 55 := ⟨by decide +kernel, rfl⟩
theorem dDI_partNamedBy_55 : decode b_DI_partNamedBy 55 = .ok (.invokevirtual 144, 3) ∧ 55 + 3 = 58 := ⟨by decide +kernel, rfl⟩
theorem dDI_partNamedBy_58 : decode b_DI_partNamedBy 58 = .ok (.ifCond .eq (6), 3) ∧ 58 + 3 = 61 ∧ ((58 : Nat) : Int) + (6) = ((64 : Nat) : Int) := ⟨by decide +kernel, rfl, by decide⟩
theorem dDI_partNamedBy_61 : decode b_DI_partNamedBy 61 = .ok (.iload 5, 2) ∧ 61 + 2 = 63 := ⟨by decide +kernel, rfl⟩
theorem dDI_partNamedBy_63 : decode b_DI_partNamedBy 63 = .ok (.ireturn, 1) ∧ 63 + 1 = 64 := ⟨by decide +kernel, rfl⟩
theorem dDI_partNamedBy_64 : decode b_DI_partNamedBy 64 = .ok (.iinc 5 (1), 3) ∧ 64 + 3 = 67 := ⟨by decide +kernel, rfl⟩
theorem dDI_partNamedBy_67 : decode b_DI_partNamedBy 67 = .ok (.goto (-27), 3) ∧ 67 + 3 = 70 ∧ ((67 : Nat) : Int) + (-27) = ((40 : Nat) : Int) := ⟨by decide +kernel, rfl, by decide⟩
theorem dDI_partNamedBy_70 : decode b_DI_partNamedBy 70 = .ok (.iconst (-1), 1) ∧ 70 + 1 = 71 := ⟨by decide +kernel, rfl⟩
theorem dDI_partNamedBy_71 : decode b_DI_partNamedBy 71 = .ok (.ireturn, 1) ∧ 71 + 1 = 72 := ⟨by decide +kernel, rfl⟩
theorem dDI_labelsFault_0 : decode b_DI_labelsFault 0 = .ok (.aload_n 0, 1) ∧ 0 + 1 = 1 := ⟨by decide +kernel, rfl⟩
theorem dDI_labelsFault_1 : decode b_DI_labelsFault 1 = .ok (.getfield 15, 3) ∧ 1 + 3 = 4 := ⟨by decide +kernel, rfl⟩
theorem dDI_labelsFault_4 : decode b_DI_labelsFault 4 = .ok (.iconst 0, 1) ∧ 4 + 1 = 5 := ⟨by decide +kernel, rfl⟩
theorem dDI_labelsFault_5 : decode b_DI_labelsFault 5 = .ok (.invokestatic 131, 3) ∧ 5 + 3 = 8 := ⟨by decide +kernel, rfl⟩
theorem dDI_labelsFault_8 : decode b_DI_labelsFault 8 = .ok (.iconst 1, 1) ∧ 8 + 1 = 9 := ⟨by decide +kernel, rfl⟩
theorem dDI_labelsFault_9 : decode b_DI_labelsFault 9 = .ok (.istore_n 1, 1) ∧ 9 + 1 = 10 := ⟨by decide +kernel, rfl⟩
theorem dDI_labelsFault_10 : decode b_DI_labelsFault 10 = .ok (.iload_n 1, 1) ∧ 10 + 1 = 11 := ⟨by decide +kernel, rfl⟩
theorem dDI_labelsFault_11 : decode b_DI_labelsFault 11 = .ok (.aload_n 0, 1) ∧ 11 + 1 = 12 := ⟨by decide +kernel, rfl⟩
theorem dDI_labelsFault_12 : decode b_DI_labelsFault 12 = .ok (.getfield 51, 3) ∧ 12 + 3 = 15 := ⟨by decide +kernel, rfl⟩
theorem dDI_labelsFault_15 : decode b_DI_labelsFault 15 = .ok (.if_icmp .ge (58), 3) ∧ 15 + 3 = 18 ∧ ((15 : Nat) : Int) + (58) = ((73 : Nat) : Int) := ⟨by decide +kernel, rfl, by decide⟩
theorem dDI_labelsFault_18 : decode b_DI_labelsFault 18 = .ok (.iload_n 1, 1) ∧ 18 + 1 = 19 := ⟨by decide +kernel, rfl⟩
theorem dDI_labelsFault_19 : decode b_DI_labelsFault 19 = .ok (.bipush (16), 2) ∧ 19 + 2 = 21 := ⟨by decide +kernel, rfl⟩
theorem dDI_labelsFault_21 : decode b_DI_labelsFault 21 = .ok (.if_icmp .ge (52), 3) ∧ 21 + 3 = 24 ∧ ((21 : Nat) : Int) + (52) = ((73 : Nat) : Int) := ⟨by decide +kernel, rfl, by decide⟩
theorem dDI_labelsFault_24 : decode b_DI_labelsFault 24 = .ok (.aload_n 0, 1) ∧ 24 + 1 = 25 := ⟨by decide +kernel, rfl⟩
theorem dDI_labelsFault_25 : decode b_DI_labelsFault 25 = .ok (.iload_n 1, 1) ∧ 25 + 1 = 26 := ⟨by decide +kernel, rfl⟩
theorem dDI_labelsFault_26 : decode b_DI_labelsFault 26 = .ok (.invokevirtual 137, 3) ∧ 26 + 3 = 29 := ⟨by decide +kernel, rfl⟩
theorem dDI_labelsFault_29 : decode b_DI_labelsFault 29 = .ok (.istore_n 2, 1) ∧ 29 + 1 = 30 := ⟨by decide +kernel, rfl⟩
theorem dDI_labelsFault_30 : decode b_DI_labelsFault 30 = .ok (.iload_n 2, 1) ∧ 30 + 1 = 31 := ⟨by decide +kernel, rfl⟩
theorem dDI_labelsFault_31 : decode b_DI_labelsFault 31 = .ok (.iconst (-1), 1) ∧ 31 + 1 = 32 := ⟨by decide +kernel, rfl⟩
theorem dDI_labelsFault_32 : decode b_DI_labelsFault 32 = .ok (.if_icmp .eq (12), 3) ∧ 32 + 3 = 35 ∧ ((32 : Nat) : Int) + (12) = ((44 : Nat) : Int) := ⟨by decide +kernel, rfl, by decide⟩
theorem dDI_labelsFault_35 : decode b_DI_labelsFault 35 = .ok (.aload_n 0, 1) ∧ 35 + 1 = 36 := ⟨by decide +kernel, rfl⟩
theorem dDI_labelsFault_36 : decode b_DI_labelsFault 36 = .ok (.getfield 15, 3) ∧ 36 + 3 = 39 := ⟨by decide +kernel, rfl⟩
theorem dDI_labelsFault_39 : decode b_DI_labelsFault 39 = .ok (.iload_n 2, 1) ∧ 39 + 1 = 40 := ⟨by decide +kernel, rfl⟩
theorem dDI_labelsFault_40 : decode b_DI_labelsFault 40 = .ok (.iaload, 1) ∧ 40 + 1 = 41 := ⟨by decide +kernel, rfl⟩
theorem dDI_labelsFault_41 : decode b_DI_labelsFault 41 = .ok (.ifCond .eq (12), 3) ∧ 41 + 3 = 44 ∧ ((41 : Nat) : Int) + (12) = ((53 : Nat) : Int) := ⟨by decide +kernel, rfl, by decide⟩
theorem dDI_labelsFault_44 : decode b_DI_labelsFault 44 = .ok (.aload_n 0, 1) ∧ 44 + 1 = 45 := ⟨by decide +kernel, rfl⟩
theorem dDI_labelsFault_45 : decode b_DI_labelsFault 45 = .ok (.bipush (16), 2) ∧ 45 + 2 = 47 := ⟨by decide +kernel, rfl⟩
theorem dDI_labelsFault_47 : decode b_DI_labelsFault 47 = .ok (.iload_n 1, 1) ∧ 47 + 1 = 48 := ⟨by decide +kernel, rfl⟩
theorem dDI_labelsFault_48 : decode b_DI_labelsFault 48 = .ok (.iconst 0, 1) ∧ 48 + 1 = 49 := ⟨by decide +kernel, rfl⟩
theorem dDI_labelsFault_49 : decode b_DI_labelsFault 49 = .ok (.invokevirtual 112, 3) ∧ 49 + 3 = 52 := ⟨by decide +kernel, rfl⟩
theorem dDI_labelsFault_52 : decode b_DI_labelsFault 52 = .ok (.ireturn, 1) ∧ 52 + 1 = 53 := ⟨by decide +kernel, rfl⟩
theorem dDI_labelsFault_53 : decode b_DI_labelsFault 53 = .ok (.aload_n 0, 1) ∧ 53 + 1 = 54 := ⟨by decide +kernel, rfl⟩
theorem dDI_labelsFault_54 : decode b_DI_labelsFault 54 = .ok (.getfield 15, 3) ∧ 54 + 3 = 57 := ⟨by decide +kernel, rfl⟩
theorem dDI_labelsFault_57 : decode b_DI_labelsFault 57 = .ok (.iload_n 2, 1) ∧ 57 + 1 = 58 := ⟨by decide +kernel, rfl⟩
theorem dDI_labelsFault_58 : decode b_DI_labelsFault 58 = .ok (.iload_n 1, 1) ∧ 58 + 1 = 59 := ⟨by decide +kernel, rfl⟩
theorem dDI_labelsFault_59 : decode b_DI_labelsFault 59 = .ok (.iastore, 1) ∧ 59 + 1 = 60 := ⟨by decide +kernel, rfl⟩
theorem dDI_labelsFault_60 : decode b_DI_labelsFault 60 = .ok (.aload_n 0, 1) ∧ 60 + 1 = 61 := ⟨by decide +kernel, rfl⟩
theorem dDI_labelsFault_61 : decode b_DI_labelsFault 61 = .ok (.getfield 9, 3) ∧ 61 + 3 = 64 := ⟨by decide +kernel, rfl⟩
theorem dDI_labelsFault_64 : decode b_DI_labelsFault 64 = .ok (.iload_n 1, 1) ∧ 64 + 1 = 65 := ⟨by decide +kernel, rfl⟩
theorem dDI_labelsFault_65 : decode b_DI_labelsFault 65 = .ok (.iload_n 2, 1) ∧ 65 + 1 = 66 := ⟨by decide +kernel, rfl⟩
theorem dDI_labelsFault_66 : decode b_DI_labelsFault 66 = .ok (.iastore, 1) ∧ 66 + 1 = 67 := ⟨by decide +kernel, rfl⟩
theorem dDI_labelsFault_67 : decode b_DI_labelsFault 67 = .ok (.iinc 1 (1), 3) ∧ 67 + 3 = 70 := ⟨by decide +kernel, rfl⟩
theorem dDI_labelsFault_70 : decode b_DI_labelsFault 70 = .ok (.goto (-60), 3) ∧ 70 + 3 = 73 ∧ ((70 : Nat) : Int) + (-60) = ((10 : Nat) : Int) := ⟨by decide +kernel, rfl, by decide⟩
theorem dDI_labelsFault_73 : decode b_DI_labelsFault 73 = .ok (.iconst 0, 1) ∧ 73 + 1 = 74 := ⟨by decide +kernel, rfl⟩
theorem dDI_labelsFault_74 : decode b_DI_labelsFault 74 = .ok (.ireturn, 1) ∧ 74 + 1 = 75 := ⟨by decide +kernel, rfl⟩
theorem dDI_linkIsRight_0 : decode b_DI_linkIsRight 0 = .ok (.iload_n 1, 1) ∧ 0 + 1 = 1 := ⟨by decide +kernel, rfl⟩
theorem dDI_linkIsRight_1 : decode b_DI_linkIsRight 1 = .ok (.invokestatic 175, 3) ∧ 1 + 3 = 4 := ⟨by decide +kernel, rfl⟩
theorem dDI_linkIsRight_4 : decode b_DI_linkIsRight 4 = .ok (.ifCond .eq (28), 3) ∧ 4 + 3 = 7 ∧ ((4 : Nat) : Int) + (28) = ((32 : Nat) : Int) := ⟨by decide +kernel, rfl, by decide⟩
theorem dDI_linkIsRight_7 : decode b_DI_linkIsRight 7 = .ok (.lload_n 2, 1) ∧ 7 + 1 = 8 := ⟨by decide +kernel, rfl⟩
theorem dDI_linkIsRight_8 : decode b_DI_linkIsRight 8 = .ok (.lconst 0, 1) ∧ 8 + 1 = 9 := ⟨by decide +kernel, rfl⟩
theorem dDI_linkIsRight_9 : decode b_DI_linkIsRight 9 = .ok (.lcmp, 1) ∧ 9 + 1 = 10 := ⟨by decide +kernel, rfl⟩
theorem dDI_linkIsRight_10 : decode b_DI_linkIsRight 10 = .ok (.ifCond .eq (20), 3) ∧ 10 + 3 = 13 ∧ ((10 : Nat) : Int) + (20) = ((30 : Nat) : Int) := ⟨by decide +kernel, rfl, by decide⟩
theorem dDI_linkIsRight_13 : decode b_DI_linkIsRight 13 = .ok (.lload_n 2, 1) ∧ 13 + 1 = 14 := ⟨by decide +kernel, rfl⟩
theorem dDI_linkIsRight_14 : decode b_DI_linkIsRight 14 = .ok (.aload_n 0, 1) ∧ 14 + 1 = 15 := ⟨by decide +kernel, rfl⟩
theorem dDI_linkIsRight_15 : decode b_DI_linkIsRight 15 = .ok (.getfield 15, 3) ∧ 15 + 3 = 18 := ⟨by decide +kernel, rfl⟩
theorem dDI_linkIsRight_18 : decode b_DI_linkIsRight 18 = .ok (.bipush (8), 2) ∧ 18 + 2 = 20 := ⟨by decide +kernel, rfl⟩
theorem dDI_linkIsRight_20 : decode b_DI_linkIsRight 20 = .ok (.iaload, 1) ∧ 20 + 1 = 21 := ⟨by decide +kernel, rfl⟩
theorem dDI_linkIsRight_21 : decode b_DI_linkIsRight 21 = .ok (.i2l, 1) ∧ 21 + 1 = 22 := ⟨by decide +kernel, rfl⟩
theorem dDI_linkIsRight_22 : decode b_DI_linkIsRight 22 = .ok (.lcmp, 1) ∧ 22 + 1 = 23 := ⟨by decide +kernel, rfl⟩
theorem dDI_linkIsRight_23 : decode b_DI_linkIsRight 23 = .ok (.ifCond .ne (7), 3) ∧ 23 + 3 = 26 ∧ ((23 : Nat) : Int) + (7) = ((30 : Nat) : Int) := ⟨by decide +kernel, rfl, by decide⟩
theorem dDI_linkIsRight_26 : decode b_DI_linkIsRight 26 = .ok (.iconst 1, 1) ∧ 26 + 1 = 27 := ⟨by decide +kernel, rfl⟩
theorem dDI_linkIsRight_27 : decode b_DI_linkIsRight 27 = .ok (.goto (4), 3) ∧ 27 + 3 = 30 ∧ ((27 : Nat) : Int) + (4) = ((31 : Nat) : Int) := ⟨by decide +kernel, rfl, by decide⟩
theorem dDI_linkIsRight_30 : decode b_DI_linkIsRight 30 = .ok (.iconst 0, 1) ∧ 30 + 1 = 31 := ⟨by decide +kernel, rfl⟩
theorem dDI_linkIsRight_31 : decode b_DI_linkIsRight 31 = .ok (.ireturn, 1) ∧ 31 + 1 = 32 := ⟨by decide +kernel, rfl⟩
theorem dDI_linkIsRight_32 : decode b_DI_linkIsRight 32 = .ok (.iload_n 1, 1) ∧ 32 + 1 = 33 := ⟨by decide +kernel, rfl⟩
theorem dDI_linkIsRight_33 : decode b_DI_linkIsRight 33 = .ok (.bipush (8), 2) ∧ 33 + 2 = 35 := ⟨by decide +kernel, rfl⟩
theorem dDI_linkIsRight_35 : decode b_DI_linkIsRight 35 = .ok (.if_icmp .ne (30), 3) ∧ 35 + 3 = 38 ∧ ((35 : Nat) : Int) + (30) = ((65 : Nat) : Int) := ⟨by decide +kernel, rfl, by decide⟩
theorem dDI_linkIsRight_38 : decode b_DI_linkIsRight 38 = .ok (.lload_n 2, 1) ∧ 38 + 1 = 39 := ⟨by decide +kernel, rfl⟩
theorem dDI_linkIsRight_39 : decode b_DI_linkIsRight 39 = .ok (.lconst 0, 1) ∧ 39 + 1 = 40 := ⟨by decide +kernel, rfl⟩
theorem dDI_linkIsRight_40 : decode b_DI_linkIsRight 40 = .ok (.lcmp, 1) ∧ 40 + 1 = 41 := ⟨by decide +kernel, rfl⟩
theorem dDI_linkIsRight_41 : decode b_DI_linkIsRight 41 = .ok (.ifCond .eq (20), 3) ∧ 41 + 3 = 44 ∧ ((41 : Nat) : Int) + (20) = ((61 : Nat) : Int) := ⟨by decide +kernel, rfl, by decide⟩
theorem dDI_linkIsRight_44 : decode b_DI_linkIsRight 44 = .ok (.lload_n 2, 1) ∧ 44 + 1 = 45 := ⟨by decide +kernel, rfl⟩
theorem dDI_linkIsRight_45 : decode b_DI_linkIsRight 45 = .ok (.aload_n 0, 1) ∧ 45 + 1 = 46 := ⟨by decide +kernel, rfl⟩
theorem dDI_linkIsRight_46 : decode b_DI_linkIsRight 46 = .ok (.getfield 15, 3) ∧ 46 + 3 = 49 := ⟨by decide +kernel, rfl⟩
theorem dDI_linkIsRight_49 : decode b_DI_linkIsRight 49 = .ok (.bipush (9), 2) ∧ 49 + 2 = 51 := ⟨by decide +kernel, rfl⟩
theorem dDI_linkIsRight_51 : decode b_DI_linkIsRight 51 = .ok (.iaload, 1) ∧ 51 + 1 = 52 := ⟨by decide +kernel, rfl⟩
theorem dDI_linkIsRight_52 : decode b_DI_linkIsRight 52 = .ok (.i2l, 1) ∧ 52 + 1 = 53 := ⟨by decide +kernel, rfl⟩
theorem dDI_linkIsRight_53 : decode b_DI_linkIsRight 53 = .ok (.lcmp, 1) ∧ 53 + 1 = 54 := ⟨by decide +kernel, rfl⟩
theorem dDI_linkIsRight_54 : decode b_DI_linkIsRight 54 = .ok (.ifCond .ne (7), 3) ∧ 54 + 3 = 57 ∧ ((54 : Nat) : Int) + (7) = ((61 : Nat) : Int) := ⟨by decide +kernel, rfl, by decide⟩
theorem dDI_linkIsRight_57 : decode b_DI_linkIsRight 57 = .ok (.iconst 1, 1) ∧ 57 + 1 = 58 := ⟨by decide +kernel, rfl⟩
theorem dDI_linkIsRight_58 : decode b_DI_linkIsRight 58 = .ok (.goto (18), 3) ∧ 58 + 3 = 61 ∧ ((58 : Nat) : Int) + (18) = ((76 : Nat) : Int) := ⟨by decide +kernel, rfl, by decide⟩
theorem dDI_linkIsRight_61 : decode b_DI_linkIsRight 61 = .ok (.iconst 0, 1) ∧ 61 + 1 = 62 := ⟨by decide +kernel, rfl⟩
theorem dDI_linkIsRight_62 : decode b_DI_linkIsRight 62 = .ok (.goto (14), 3) ∧ 62 + 3 = 65 ∧ ((62 : Nat) : Int) + (14) = ((76 : Nat) : Int) := ⟨by decide +kernel, rfl, by decide⟩
theorem dDI_linkIsRight_65 : decode b_DI_linkIsRight 65 = .ok (.lload_n 2, 1) ∧ 65 + 1 = 66 := ⟨by decide +kernel, rfl⟩
theorem dDI_linkIsRight_66 : decode b_DI_linkIsRight 66 = .ok (.lconst 0, 1) ∧ 66 + 1 = 67 := ⟨by decide +kernel, rfl⟩
theorem dDI_linkIsRight_67 : decode b_DI_linkIsRight 67 = .ok (.lcmp, 1) ∧ 67 + 1 = 68 := ⟨by decide +kernel, rfl⟩
theorem dDI_linkIsRight_68 : decode b_DI_linkIsRight 68 = .ok (.ifCond .ne (7), 3) ∧ 68 + 3 = 71 ∧ ((68 : Nat) : Int) + (7) = ((75 : Nat) : Int) := ⟨by decide +kernel, rfl, by decide⟩
theorem dDI_linkIsRight_71 : decode b_DI_linkIsRight 71 = .ok (.iconst 1, 1) ∧ 71 + 1 = 72 := ⟨by decide +kernel, rfl⟩
theorem dDI_linkIsRight_72 : decode b_DI_linkIsRight 72 = .ok (.goto (4), 3) ∧ 72 + 3 = 75 ∧ ((72 : Nat) : Int) + (4) = ((76 : Nat) : Int) := ⟨by decide +kernel, rfl, by decide⟩
theorem dDI_linkIsRight_75 : decode b_DI_linkIsRight 75 = .ok (.iconst 0, 1) ∧ 75 + 1 = 76 := ⟨by decide +kernel, rfl⟩
theorem dDI_linkIsRight_76 : decode b_DI_linkIsRight 76 = .ok (.ireturn, 1) ∧ 76 + 1 = 77 := ⟨by decide +kernel, rfl⟩
theorem dDI_infoIsRight_0 : decode b_DI_infoIsRight 0 = .ok (.iload_n 1, 1) ∧ 0 + 1 = 1 := ⟨by decide +kernel, rfl⟩
theorem dDI_infoIsRight_1 : decode b_DI_infoIsRight 1 = .ok (.invokestatic 175, 3) ∧ 1 + 3 = 4 := ⟨by decide +kernel, rfl⟩
theorem dDI_infoIsRight_4 : decode b_DI_infoIsRight 4 = .ok (.ifCond .eq (29), 3) ∧ 4 + 3 = 7 ∧ ((4 : Nat) : Int) + (29) = ((33 : Nat) : Int) := ⟨by decide +kernel, rfl, by decide⟩
theorem dDI_infoIsRight_7 : decode b_DI_infoIsRight 7 = .ok (.lload_n 2, 1) ∧ 7 + 1 = 8 := ⟨by decide +kernel, rfl⟩
theorem dDI_infoIsRight_8 : decode b_DI_infoIsRight 8 = .ok (.lconst 0, 1) ∧ 8 + 1 = 9 := ⟨by decide +kernel, rfl⟩
theorem dDI_infoIsRight_9 : decode b_DI_infoIsRight 9 = .ok (.lcmp, 1) ∧ 9 + 1 = 10 := ⟨by decide +kernel, rfl⟩
theorem dDI_infoIsRight_10 : decode b_DI_infoIsRight 10 = .ok (.ifCond .eq (21), 3) ∧ 10 + 3 = 13 ∧ ((10 : Nat) : Int) + (21) = ((31 : Nat) : Int) := ⟨by decide +kernel, rfl, by decide⟩
theorem dDI_infoIsRight_13 : decode b_DI_infoIsRight 13 = .ok (.lload_n 2, 1) ∧ 13 + 1 = 14 := ⟨by decide +kernel, rfl⟩
theorem dDI_infoIsRight_14 : decode b_DI_infoIsRight 14 = .ok (.aload_n 0, 1) ∧ 14 + 1 = 15 := ⟨by decide +kernel, rfl⟩
theorem dDI_infoIsRight_15 : decode b_DI_infoIsRight 15 = .ok (.getfield 15, 3) ∧ 15 + 3 = 18 := ⟨by decide +kernel, rfl⟩
theorem dDI_infoIsRight_18 : decode b_DI_infoIsRight 18 = .ok (.iload_n 1, 1) ∧ 18 + 1 = 19 := ⟨by decide +kernel, rfl⟩
theorem dDI_infoIsRight_19 : decode b_DI_infoIsRight 19 = .ok (.iconst 5, 1) ∧ 19 + 1 = 20 := ⟨by decide +kernel, rfl⟩
theorem dDI_infoIsRight_20 : decode b_DI_infoIsRight 20 = .ok (.isub, 1) ∧ 20 + 1 = 21 := ⟨by decide +kernel, rfl⟩
theorem dDI_infoIsRight_21 : decode b_DI_infoIsRight 21 = .ok (.iaload, 1) ∧ 21 + 1 = 22 := ⟨by decide +kernel, rfl⟩
theorem dDI_infoIsRight_22 : decode b_DI_infoIsRight 22 = .ok (.i2l, 1) ∧ 22 + 1 = 23 := ⟨by decide +kernel, rfl⟩
theorem dDI_infoIsRight_23 : decode b_DI_infoIsRight 23 = .ok (.lcmp, 1) ∧ 23 + 1 = 24 := ⟨by decide +kernel, rfl⟩
theorem dDI_infoIsRight_24 : decode b_DI_infoIsRight 24 = .ok (.ifCond .ne (7), 3) ∧ 24 + 3 = 27 ∧ ((24 : Nat) : Int) + (7) = ((31 : Nat) : Int) := ⟨by decide +kernel, rfl, by decide⟩
theorem dDI_infoIsRight_27 : decode b_DI_infoIsRight 27 = .ok (.iconst 1, 1) ∧ 27 + 1 = 28 := ⟨by decide +kernel, rfl⟩
theorem dDI_infoIsRight_28 : decode b_DI_infoIsRight 28 = .ok (.goto (4), 3) ∧ 28 + 3 = 31 ∧ ((28 : Nat) : Int) + (4) = ((32 : Nat) : Int) := ⟨by decide +kernel, rfl, by decide⟩
theorem dDI_infoIsRight_31 : decode b_DI_infoIsRight 31 = .ok (.iconst 0, 1) ∧ 31 + 1 = 32 := ⟨by decide +kernel, rfl⟩
theorem dDI_infoIsRight_32 : decode b_DI_infoIsRight 32 = .ok (.ireturn, 1) ∧ 32 + 1 = 33 := ⟨by decide +kernel, rfl⟩
theorem dDI_infoIsRight_33 : decode b_DI_infoIsRight 33 = .ok (.iload_n 1, 1) ∧ 33 + 1 = 34 := ⟨by decide +kernel, rfl⟩
theorem dDI_infoIsRight_34 : decode b_DI_infoIsRight 34 = .ok (.bipush (8), 2) ∧ 34 + 2 = 36 := ⟨by decide +kernel, rfl⟩
theorem dDI_infoIsRight_36 : decode b_DI_infoIsRight 36 = .ok (.if_icmp .eq (9), 3) ∧ 36 + 3 = 39 ∧ ((36 : Nat) : Int) + (9) = ((45 : Nat) : Int) := ⟨by decide +kernel, rfl, by decide⟩
theorem dDI_infoIsRight_39 : decode b_DI_infoIsRight 39 = .ok (.lload_n 2, 1) ∧ 39 + 1 = 40 := ⟨by decide +kernel, rfl⟩
theorem dDI_infoIsRight_40 : decode b_DI_infoIsRight 40 = .ok (.lconst 0, 1) ∧ 40 + 1 = 41 := ⟨by decide +kernel, rfl⟩
theorem dDI_infoIsRight_41 : decode b_DI_infoIsRight 41 = .ok (.lcmp, 1) ∧ 41 + 1 = 42 := ⟨by decide +kernel, rfl⟩
theorem dDI_infoIsRight_42 : decode b_DI_infoIsRight 42 = .ok (.ifCond .ne (7), 3) ∧ 42 + 3 = 45 ∧ ((42 : Nat) : Int) + (7) = ((49 : Nat) : Int) := ⟨by decide +kernel, rfl, by decide⟩
theorem dDI_infoIsRight_45 : decode b_DI_infoIsRight 45 = .ok (.iconst 1, 1) ∧ 45 + 1 = 46 := ⟨by decide +kernel, rfl⟩
theorem dDI_infoIsRight_46 : decode b_DI_infoIsRight 46 = .ok (.goto (4), 3) ∧ 46 + 3 = 49 ∧ ((46 : Nat) : Int) + (4) = ((50 : Nat) : Int) := ⟨by decide +kernel, rfl, by decide⟩
theorem dDI_infoIsRight_49 : decode b_DI_infoIsRight 49 = .ok (.iconst 0, 1) ∧ 49 + 1 = 50 := ⟨by decide +kernel, rfl⟩
theorem dDI_infoIsRight_50 : decode b_DI_infoIsRight 50 = .ok (.ireturn, 1) ∧ 50 + 1 = 51 := ⟨by decide +kernel, rfl⟩
theorem dDI_wrongNumber_0 : decode b_DI_wrongNumber 0 = .ok (.aload_n 0, 1) ∧ 0 + 1 = 1 := ⟨by decide +kernel, rfl⟩
theorem dDI_wrongNumber_1 : decode b_DI_wrongNumber 1 = .ok (.iload_n 1, 1) ∧ 1 + 1 = 2 := ⟨by decide +kernel, rfl⟩
theorem dDI_wrongNumber_2 : decode b_DI_wrongNumber 2 = .ok (.iconst 1, 1) ∧ 2 + 1 = 3 := ⟨by decide +kernel, rfl⟩
theorem dDI_wrongNumber_3 : decode b_DI_wrongNumber 3 = .ok (.invokevirtual 108, 3) ∧ 3 + 3 = 6 := ⟨by decide +kernel, rfl⟩
theorem dDI_wrongNumber_6 : decode b_DI_wrongNumber 6 = .ok (.getstatic 159, 3) ∧ 6 + 3 = 9 := ⟨by decide +kernel, rfl⟩
theorem dDI_wrongNumber_9 : decode b_DI_wrongNumber 9 = .ok (.iload_n 2, 1) ∧ 9 + 1 = 10 := ⟨by decide +kernel, rfl⟩
theorem dDI_wrongNumber_10 : decode b_DI_wrongNumber 10 = .ok (.iaload, 1) ∧ 10 + 1 = 11 := ⟨by decide +kernel, rfl⟩
theorem dDI_wrongNumber_11 : decode b_DI_wrongNumber 11 = .ok (.i2l, 1) ∧ 11 + 1 = 12 := ⟨by decide +kernel, rfl⟩
theorem dDI_wrongNumber_12 : decode b_DI_wrongNumber 12 = .ok (.lcmp, 1) ∧ 12 + 1 = 13 := ⟨by decide +kernel, rfl⟩
theorem dDI_wrongNumber_13 : decode b_DI_wrongNumber 13 = .ok (.ifCond .eq (5), 3) ∧ 13 + 3 = 16 ∧ ((13 : Nat) : Int) + (5) = ((18 : Nat) : Int) := ⟨by decide +kernel, rfl, by decide⟩
theorem dDI_wrongNumber_16 : decode b_DI_wrongNumber 16 = .ok (.iconst 1, 1) ∧ 16 + 1 = 17 := ⟨by decide +kernel, rfl⟩
theorem dDI_wrongNumber_17 : decode b_DI_wrongNumber 17 = .ok (.ireturn, 1) ∧ 17 + 1 = 18 := ⟨by decide +kernel, rfl⟩
theorem dDI_wrongNumber_18 : decode b_DI_wrongNumber 18 = .ok (.aload_n 0, 1) ∧ 18 + 1 = 19 := ⟨by decide +kernel, rfl⟩
theorem dDI_wrongNumber_19 : decode b_DI_wrongNumber 19 = .ok (.iload_n 1, 1) ∧ 19 + 1 = 20 := ⟨by decide +kernel, rfl⟩
theorem dDI_wrongNumber_20 : decode b_DI_wrongNumber 20 = .ok (.iconst 2, 1) ∧ 20 + 1 = 21 := ⟨by decide +kernel, rfl⟩
theorem dDI_wrongNumber_21 : decode b_DI_wrongNumber 21 = .ok (.invokevirtual 108, 3) ∧ 21 + 3 = 24 := ⟨by decide +kernel, rfl⟩
theorem dDI_wrongNumber_24 : decode b_DI_wrongNumber 24 = .ok (.getstatic 162, 3) ∧ 24 + 3 = 27 := ⟨by decide +kernel, rfl⟩
theorem dDI_wrongNumber_27 : decode b_DI_wrongNumber 27 = .ok (.iload_n 2, 1) ∧ 27 + 1 = 28 := ⟨by decide +kernel, rfl⟩
theorem dDI_wrongNumber_28 : decode b_DI_wrongNumber 28 = .ok (.iaload, 1) ∧ 28 + 1 = 29 := ⟨by decide +kernel, rfl⟩
theorem dDI_wrongNumber_29 : decode b_DI_wrongNumber 29 = .ok (.i2l, 1) ∧ 29 + 1 = 30 := ⟨by decide +kernel, rfl⟩
theorem dDI_wrongNumber_30 : decode b_DI_wrongNumber 30 = .ok (.lcmp, 1) ∧ 30 + 1 = 31 := ⟨by decide +kernel, rfl⟩
theorem dDI_wrongNumber_31 : decode b_DI_wrongNumber 31 = .ok (.ifCond .eq (5), 3) ∧ 31 + 3 = 34 ∧ ((31 : Nat) : Int) + (5) = ((36 : Nat) : Int) := ⟨by decide +kernel, rfl, by decide⟩
theorem dDI_wrongNumber_34 : decode b_DI_wrongNumber 34 = .ok (.iconst 2, 1) ∧ 34 + 1 = 35 := ⟨by decide +kernel, rfl⟩
theorem dDI_wrongNumber_35 : decode b_DI_wrongNumber 35 = .ok (.ireturn, 1) ∧ 35 + 1 = 36 := ⟨by decide +kernel, rfl⟩
theorem dDI_wrongNumber_36 : decode b_DI_wrongNumber 36 = .ok (.aload_n 0, 1) ∧ 36 + 1 = 37 := ⟨by decide +kernel, rfl⟩
theorem dDI_wrongNumber_37 : decode b_DI_wrongNumber 37 = .ok (.iload_n 1, 1) ∧ 37 + 1 = 38 := ⟨by decide +kernel, rfl⟩
theorem dDI_wrongNumber_38 : decode b_DI_wrongNumber 38 = .ok (.iconst 3, 1) ∧ 38 + 1 = 39 := ⟨by decide +kernel, rfl⟩
theorem dDI_wrongNumber_39 : decode b_DI_wrongNumber 39 = .ok (.invokevirtual 108, 3) ∧ 39 + 3 = 42 := ⟨by decide +kernel, rfl⟩
theorem dDI_wrongNumber_42 : decode b_DI_wrongNumber 42 = .ok (.lconst 0, 1) ∧ 42 + 1 = 43 := ⟨by decide +kernel, rfl⟩
theorem dDI_wrongNumber_43 : decode b_DI_wrongNumber 43 = .ok (.lcmp, 1) ∧ 43 + 1 = 44 := ⟨by decide +kernel, rfl⟩
theorem dDI_wrongNumber_44 : decode b_DI_wrongNumber 44 = .ok (.ifCond .eq (5), 3) ∧ 44 + 3 = 47 ∧ ((44 : Nat) : Int) + (5) = ((49 : Nat) : Int) := ⟨by decide +kernel, rfl, by decide⟩
theorem dDI_wrongNumber_47 : decode b_DI_wrongNumber 47 = .ok (.iconst 3, 1) ∧ 47 + 1 = 48 := ⟨by decide +kernel, rfl⟩
theorem dDI_wrongNumber_48 : decode b_DI_wrongNumber 48 = .ok (.ireturn, 1) ∧ 48 + 1 = 49 := ⟨by decide +kernel, rfl⟩
theorem dDI_wrongNumber_49 : decode b_DI_wrongNumber 49 = .ok (.aload_n 0, 1) ∧ 49 + 1 = 50 := ⟨by decide +kernel, rfl⟩
theorem dDI_wrongNumber_50 : decode b_DI_wrongNumber 50 = .ok (.iload_n 2, 1) ∧ 50 + 1 = 51 := ⟨by decide +kernel, rfl⟩
theorem dDI_wrongNumber_51 : decode b_DI_wrongNumber 51 = .ok (.aload_n 0, 1) ∧ 51 + 1 = 52 := ⟨by decide +kernel, rfl⟩
theorem dDI_wrongNumber_52 : decode b_DI_wrongNumber 52 = .ok (.iload_n 1, 1) ∧ 52 + 1 = 53 := ⟨by decide +kernel, rfl⟩
theorem dDI_wrongNumber_53 : decode b_DI_wrongNumber 53 = .ok (.bipush (6), 2) ∧ 53 + 2 = 55 := ⟨by decide +kernel, rfl⟩
theorem dDI_wrongNumber_55 : decode b_DI_wrongNumber 55 = .ok (.invokevirtual 108, 3) ∧ 55 + 3 = 58 := ⟨by decide +kernel, rfl⟩
theorem dDI_wrongNumber_58 : decode b_DI_wrongNumber 58 = .ok (.invokevirtual 165, 3) ∧ 58 + 3 = 61 := ⟨by decide +kernel, rfl⟩
theorem dDI_wrongNumber_61 : decode b_DI_wrongNumber 61 = .ok (.ifCond .ne (6), 3) ∧ 61 + 3 = 64 ∧ ((61 : Nat) : Int) + (6) = ((67 : Nat) : Int) := ⟨by decide +kernel, rfl, by decide⟩
theorem dDI_wrongNumber_64 : decode b_DI_wrongNumber 64 = .ok (.bipush (6), 2) ∧ 64 + 2 = 66 := ⟨by decide +kernel, rfl⟩
theorem dDI_wrongNumber_66 : decode b_DI_wrongNumber 66 = .ok (.ireturn, 1) ∧ 66 + 1 = 67 := ⟨by decide +kernel, rfl⟩
theorem dDI_wrongNumber_67 : decode b_DI_wrongNumber 67 = .ok (.aload_n 0, 1) ∧ 67 + 1 = 68 := ⟨by decide +kernel, rfl⟩
theorem dDI_wrongNumber_68 : decode b_DI_wrongNumber 68 = .ok (.iload_n 2, 1) ∧ 68 + 1 = 69 := ⟨by decide +kernel, rfl⟩
theorem dDI_wrongNumber_69 : decode b_DI_wrongNumber 69 = .ok (.aload_n 0, 1) ∧ 69 + 1 = 70 := ⟨by decide +kernel, rfl⟩
theorem dDI_wrongNumber_70 : decode b_DI_wrongNumber 70 = .ok (.iload_n 1, 1) ∧ 70 + 1 = 71 := ⟨by decide +kernel, rfl⟩
theorem dDI_wrongNumber_71 : decode b_DI_wrongNumber 71 = .ok (.bipush (7), 2) ∧ 71 + 2 = 73 := ⟨by decide +kernel, rfl⟩
theorem dDI_wrongNumber_73 : decode b_DI_wrongNumber 73 = .ok (.invokevirtual 108, 3) ∧ 73 + 3 = 76 := ⟨by decide +kernel, rfl⟩
theorem dDI_wrongNumber_76 : decode b_DI_wrongNumber 76 = .ok (.invokevirtual 169, 3) ∧ 76 + 3 = 79 := ⟨by decide +kernel, rfl⟩
theorem dDI_wrongNumber_79 : decode b_DI_wrongNumber 79 = .ok (.ifCond .ne (6), 3) ∧ 79 + 3 = 82 ∧ ((79 : Nat) : Int) + (6) = ((85 : Nat) : Int) := ⟨by decide +kernel, rfl, by decide⟩
theorem dDI_wrongNumber_82 : decode b_DI_wrongNumber 82 = .ok (.bipush (7), 2) ∧ 82 + 2 = 84 := ⟨by decide +kernel, rfl⟩
theorem dDI_wrongNumber_84 : decode b_DI_wrongNumber 84 = .ok (.ireturn, 1) ∧ 84 + 1 = 85 := ⟨by decide +kernel, rfl⟩
theorem dDI_wrongNumber_85 : decode b_DI_wrongNumber 85 = .ok (.aload_n 0, 1) ∧ 85 + 1 = 86 := ⟨by decide +kernel, rfl⟩
theorem dDI_wrongNumber_86 : decode b_DI_wrongNumber 86 = .ok (.iload_n 1, 1) ∧ 86 + 1 = 87 := ⟨by decide +kernel, rfl⟩
theorem dDI_wrongNumber_87 : decode b_DI_wrongNumber 87 = .ok (.bipush (9), 2) ∧ 87 + 2 = 89 := ⟨by decide +kernel, rfl⟩
theorem dDI_wrongNumber_89 : decode b_DI_wrongNumber 89 = .ok (.invokevirtual 108, 3) ∧ 89 + 3 = 92 := ⟨by decide +kernel, rfl⟩
theorem dDI_wrongNumber_92 : decode b_DI_wrongNumber 92 = .ok (.getstatic 172, 3) ∧ 92 + 3 = 95 := ⟨by decide +kernel, rfl⟩
theorem dDI_wrongNumber_95 : decode b_DI_wrongNumber 95 = .ok (.iload_n 2, 1) ∧ 95 + 1 = 96 := ⟨by decide +kernel, rfl⟩
theorem dDI_wrongNumber_96 : decode b_DI_wrongNumber 96 = .ok (.iaload, 1) ∧ 96 + 1 = 97 := ⟨by decide +kernel, rfl⟩
theorem dDI_wrongNumber_97 : decode b_DI_wrongNumber 97 = .ok (.i2l, 1) ∧ 97 + 1 = 98 := ⟨by decide +kernel, rfl⟩
theorem dDI_wrongNumber_98 : decode b_DI_wrongNumber 98 = .ok (.lcmp, 1) ∧ 98 + 1 = 99 := ⟨by decide +kernel, rfl⟩
theorem dDI_wrongNumber_99 : decode b_DI_wrongNumber 99 = .ok (.ifCond .eq (8), 3) ∧ 99 + 3 = 102 ∧ ((99 : Nat) : Int) + (8) = ((107 : Nat) : Int) := ⟨by decide +kernel, rfl, by decide⟩
theorem dDI_wrongNumber_102 : decode b_DI_wrongNumber 102 = .ok (.bipush (9), 2) ∧ 102 + 2 = 104 := ⟨by decide +kernel, rfl⟩
theorem dDI_wrongNumber_104 : decode b_DI_wrongNumber 104 = .ok (.goto (4), 3) ∧ 104 + 3 = 107 ∧ ((104 : Nat) : Int) + (4) = ((108 : Nat) : Int) := ⟨by decide +kernel, rfl, by decide⟩
theorem dDI_wrongNumber_107 : decode b_DI_wrongNumber 107 = .ok (.iconst (-1), 1) ∧ 107 + 1 = 108 := ⟨by decide +kernel, rfl⟩
theorem dDI_wrongNumber_108 : decode b_DI_wrongNumber 108 = .ok (.ireturn, 1) ∧ 108 + 1 = 109 := ⟨by decide +kernel, rfl⟩
theorem dDI_numbersFault_0 : decode b_DI_numbersFault 0 = .ok (.iconst 1, 1) ∧ 0 + 1 = 1 := ⟨by decide +kernel, rfl⟩
theorem dDI_numbersFault_1 : decode b_DI_numbersFault 1 = .ok (.istore_n 1, 1) ∧ 1 + 1 = 2 := ⟨by decide +kernel, rfl⟩
theorem dDI_numbersFault_2 : decode b_DI_numbersFault 2 = .ok (.iload_n 1, 1) ∧ 2 + 1 = 3 := ⟨by decide +kernel, rfl⟩
theorem dDI_numbersFault_3 : decode b_DI_numbersFault 3 = .ok (.aload_n 0, 1) ∧ 3 + 1 = 4 := ⟨by decide +kernel, rfl⟩
theorem dDI_numbersFault_4 : decode b_DI_numbersFault 4 = .ok (.getfield 51, 3) ∧ 4 + 3 = 7 := ⟨by decide +kernel, rfl⟩
theorem dDI_numbersFault_7 : decode b_DI_numbersFault 7 = .ok (.if_icmp .ge (41), 3) ∧ 7 + 3 = 10 ∧ ((7 : Nat) : Int) + (41) = ((48 : Nat) : Int) := ⟨by decide +kernel, rfl, by decide⟩
theorem dDI_numbersFault_10 : decode b_DI_numbersFault 10 = .ok (.iload_n 1, 1) ∧ 10 + 1 = 11 := ⟨by decide +kernel, rfl⟩
theorem dDI_numbersFault_11 : decode b_DI_numbersFault 11 = .ok (.bipush (16), 2) ∧ 11 + 2 = 13 := ⟨by decide +kernel, rfl⟩
theorem dDI_numbersFault_13 : decode b_DI_numbersFault 13 = .ok (.if_icmp .ge (35), 3) ∧ 13 + 3 = 16 ∧ ((13 : Nat) : Int) + (35) = ((48 : Nat) : Int) := ⟨by decide +kernel, rfl, by decide⟩
theorem dDI_numbersFault_16 : decode b_DI_numbersFault 16 = .ok (.aload_n 0, 1) ∧ 16 + 1 = 17 := ⟨by decide +kernel, rfl⟩
theorem dDI_numbersFault_17 : decode b_DI_numbersFault 17 = .ok (.iload_n 1, 1) ∧ 17 + 1 = 18 := ⟨by decide +kernel, rfl⟩
theorem dDI_numbersFault_18 : decode b_DI_numbersFault 18 = .ok (.aload_n 0, 1) ∧ 18 + 1 = 19 := ⟨by decide +kernel, rfl⟩
theorem dDI_numbersFault_19 : decode b_DI_numbersFault 19 = .ok (.getfield 9, 3) ∧ 19 + 3 = 22 := ⟨by decide +kernel, rfl⟩
theorem dDI_numbersFault_22 : decode b_DI_numbersFault 22 = .ok (.iload_n 1, 1) ∧ 22 + 1 = 23 := ⟨by decide +kernel, rfl⟩
theorem dDI_numbersFault_23 : decode b_DI_numbersFault 23 = .ok (.iaload, 1) ∧ 23 + 1 = 24 := ⟨by decide +kernel, rfl⟩
theorem dDI_numbersFault_24 : decode b_DI_numbersFault 24 = .ok (.invokevirtual 156, 3) ∧ 24 + 3 = 27 := ⟨by decide +kernel, rfl⟩
theorem dDI_numbersFault_27 : decode b_DI_numbersFault 27 = .ok (.istore_n 2, 1) ∧ 27 + 1 = 28 := ⟨by decide +kernel, rfl⟩
theorem dDI_numbersFault_28 : decode b_DI_numbersFault 28 = .ok (.iload_n 2, 1) ∧ 28 + 1 = 29 := ⟨by decide +kernel, rfl⟩
theorem dDI_numbersFault_29 : decode b_DI_numbersFault 29 = .ok (.iconst (-1), 1) ∧ 29 + 1 = 30 := ⟨by decide +kernel, rfl⟩
theorem dDI_numbersFault_30 : decode b_DI_numbersFault 30 = .ok (.if_icmp .eq (12), 3) ∧ 30 + 3 = 33 ∧ ((30 : Nat) : Int) + (12) = ((42 : Nat) : Int) := ⟨by decide +kernel, rfl, by decide⟩
theorem dDI_numbersFault_33 : decode b_DI_numbersFault 33 = .ok (.aload_n 0, 1) ∧ 33 + 1 = 34 := ⟨by decide +kernel, rfl⟩
theorem dDI_numbersFault_34 : decode b_DI_numbersFault 34 = .ok (.bipush (17), 2) ∧ 34 + 2 = 36 := ⟨by decide +kernel, rfl⟩
theorem dDI_numbersFault_36 : decode b_DI_numbersFault 36 = .ok (.iload_n 1, 1) ∧ 36 + 1 = 37 := ⟨by decide +kernel, rfl⟩
theorem dDI_numbersFault_37 : decode b_DI_numbersFault 37 = .ok (.iload_n 2, 1) ∧ 37 + 1 = 38 := ⟨by decide +kernel, rfl⟩
theorem dDI_numbersFault_38 : decode b_DI_numbersFault 38 = .ok (.invokevirtual 112, 3) ∧ 38 + 3 = 41 := ⟨by decide +kernel, rfl⟩
theorem dDI_numbersFault_41 : decode b_DI_numbersFault 41 = .ok (.ireturn, 1) ∧ 41 + 1 = 42 := ⟨by decide +kernel, rfl⟩
theorem dDI_numbersFault_42 : decode b_DI_numbersFault 42 = .ok (.iinc 1 (1), 3) ∧ 42 + 3 = 45 := ⟨by decide +kernel, rfl⟩
theorem dDI_numbersFault_45 : decode b_DI_numbersFault 45 = .ok (.goto (-43), 3) ∧ 45 + 3 = 48 ∧ ((45 : Nat) : Int) + (-43) = ((2 : Nat) : Int) := ⟨by decide +kernel, rfl, by decide⟩
theorem dDI_numbersFault_48 : decode b_DI_numbersFault 48 = .ok (.iconst 0, 1) ∧ 48 + 1 = 49 := ⟨by decide +kernel, rfl⟩
theorem dDI_numbersFault_49 : decode b_DI_numbersFault 49 = .ok (.ireturn, 1) ∧ 49 + 1 = 50 := ⟨by decide +kernel, rfl⟩
theorem dDI_missingFault_0 : decode b_DI_missingFault 0 = .ok (.aload_n 0, 1) ∧ 0 + 1 = 1 := ⟨by decide +kernel, rfl⟩
theorem dDI_missingFault_1 : decode b_DI_missingFault 1 = .ok (.getfield 15, 3) ∧ 1 + 3 = 4 := ⟨by decide +kernel, rfl⟩
theorem dDI_missingFault_4 : decode b_DI_missingFault 4 = .ok (.bipush (8), 2) ∧ 4 + 2 = 6 := ⟨by decide +kernel, rfl⟩
theorem dDI_missingFault_6 : decode b_DI_missingFault 6 = .ok (.iaload, 1) ∧ 6 + 1 = 7 := ⟨by decide +kernel, rfl⟩
theorem dDI_missingFault_7 : decode b_DI_missingFault 7 = .ok (.ifCond .eq (27), 3) ∧ 7 + 3 = 10 ∧ ((7 : Nat) : Int) + (27) = ((34 : Nat) : Int) := ⟨by decide +kernel, rfl, by decide⟩
theorem dDI_missingFault_10 : decode b_DI_missingFault 10 = .ok (.aload_n 0, 1) ∧ 10 + 1 = 11 := ⟨by decide +kernel, rfl⟩
theorem dDI_missingFault_11 : decode b_DI_missingFault 11 = .ok (.getfield 15, 3) ∧ 11 + 3 = 14 := ⟨by decide +kernel, rfl⟩
theorem dDI_missingFault_14 : decode b_DI_missingFault 14 = .ok (.bipush (9), 2) ∧ 14 + 2 = 16 := ⟨by decide +kernel, rfl⟩
theorem dDI_missingFault_16 : decode b_DI_missingFault 16 = .ok (.iaload, 1) ∧ 16 + 1 = 17 := ⟨by decide +kernel, rfl⟩
theorem dDI_missingFault_17 : decode b_DI_missingFault 17 = .ok (.ifCond .eq (17), 3) ∧ 17 + 3 = 20 ∧ ((17 : Nat) : Int) + (17) = ((34 : Nat) : Int) := ⟨by decide +kernel, rfl, by decide⟩
theorem dDI_missingFault_20 : decode b_DI_missingFault 20 = .ok (.aload_n 0, 1) ∧ 20 + 1 = 21 := ⟨by decide +kernel, rfl⟩
theorem dDI_missingFault_21 : decode b_DI_missingFault 21 = .ok (.getfield 15, 3) ∧ 21 + 3 = 24 := ⟨by decide +kernel, rfl⟩
theorem dDI_missingFault_24 : decode b_DI_missingFault 24 = .ok (.bipush (10), 2) ∧ 24 + 2 = 26 := ⟨by decide +kernel, rfl⟩
theorem dDI_missingFault_26 : decode b_DI_missingFault 26 = .ok (.iaload, 1) ∧ 26 + 1 = 27 := ⟨by decide +kernel, rfl⟩
theorem dDI_missingFault_27 : decode b_DI_missingFault 27 = .ok (.ifCond .eq (7), 3) ∧ 27 + 3 = 30 ∧ ((27 : Nat) : Int) + (7) = ((34 : Nat) : Int) := ⟨by decide +kernel, rfl, by decide⟩
theorem dDI_missingFault_30 : decode b_DI_missingFault 30 = .ok (.iconst 1, 1) ∧ 30 + 1 = 31 := ⟨by decide +kernel, rfl⟩
theorem dDI_missingFault_31 : decode b_DI_missingFault 31 = .ok (.goto (4), 3) ∧ 31 + 3 = 34 ∧ ((31 : Nat) : Int) + (4) = ((35 : Nat) : Int) := ⟨by decide +kernel, rfl, by decide⟩
theorem dDI_missingFault_34 : decode b_DI_missingFault 34 = .ok (.iconst 0, 1) ∧ 34 + 1 = 35 := ⟨by decide +kernel, rfl⟩
theorem dDI_missingFault_35 : decode b_DI_missingFault 35 = .ok (.istore_n 1, 1) ∧ 35 + 1 = 36 := ⟨by decide +kernel, rfl⟩
theorem dDI_missingFault_36 : decode b_DI_missingFault 36 = .ok (.iload_n 1, 1) ∧ 36 + 1 = 37 := ⟨by decide +kernel, rfl⟩
theorem dDI_missingFault_37 : decode b_DI_missingFault 37 = .ok (.ifCond .eq (21), 3) ∧ 37 + 3 = 40 ∧ ((37 : Nat) : Int) + (21) = ((58 : Nat) : Int) := ⟨by decide +kernel, rfl, by decide⟩
theorem dDI_missingFault_40 : decode b_DI_missingFault 40 = .ok (.aload_n 0, 1) ∧ 40 + 1 = 41 := ⟨by decide +kernel, rfl⟩
theorem dDI_missingFault_41 : decode b_DI_missingFault 41 = .ok (.getfield 15, 3) ∧ 41 + 3 = 44 := ⟨by decide +kernel, rfl⟩
theorem dDI_missingFault_44 : decode b_DI_missingFault 44 = .ok (.bipush (10), 2) ∧ 44 + 2 = 46 := ⟨by decide +kernel, rfl⟩
theorem dDI_missingFault_46 : decode b_DI_missingFault 46 = .ok (.iaload, 1) ∧ 46 + 1 = 47 := ⟨by decide +kernel, rfl⟩
theorem dDI_missingFault_47 : decode b_DI_missingFault 47 = .ok (.aload_n 0, 1) ∧ 47 + 1 = 48 := ⟨by decide +kernel, rfl⟩
theorem dDI_missingFault_48 : decode b_DI_missingFault 48 = .ok (.getfield 64, 3) ∧ 48 + 3 = 51 := ⟨by decide +kernel, rfl⟩
theorem dDI_missingFault_51 : decode b_DI_missingFault 51 = .ok (.if_icmp .ne (7), 3) ∧ 51 + 3 = 54 ∧ ((51 : Nat) : Int) + (7) = ((58 : Nat) : Int) := ⟨by decide +kernel, rfl, by decide⟩
theorem dDI_missingFault_54 : decode b_DI_missingFault 54 = .ok (.iconst 0, 1) ∧ 54 + 1 = 55 := ⟨by decide +kernel, rfl⟩
theorem dDI_missingFault_55 : decode b_DI_missingFault 55 = .ok (.goto (14), 3) ∧ 55 + 3 = 58 ∧ ((55 : Nat) : Int) + (14) = ((69 : Nat) : Int) := ⟨by decide +kernel, rfl, by decide⟩
theorem dDI_missingFault_58 : decode b_DI_missingFault 58 = .ok (.aload_n 0, 1) ∧ 58 + 1 = 59 := ⟨by decide +kernel, rfl⟩
theorem dDI_missingFault_59 : decode b_DI_missingFault 59 = .ok (.getfield 31, 3) ∧ 59 + 3 = 62 := ⟨by decide +kernel, rfl⟩
theorem dDI_missingFault_62 : decode b_DI_missingFault 62 = .ok (.bipush (18), 2) ∧ 62 + 2 = 64 := ⟨by decide +kernel, rfl⟩
theorem dDI_missingFault_64 : decode b_DI_missingFault 64 = .ok (.bipush (50), 2) ∧ 64 + 2 = 66 := ⟨by decide +kernel, rfl⟩
theorem dDI_missingFault_66 : decode b_DI_missingFault 66 = .ok (.invokevirtual 45, 3) ∧ 66 + 3 = 69 := ⟨by decide +kernel, rfl⟩
theorem dDI_missingFault_69 : decode b_DI_missingFault 69 = .ok (.ireturn, 1) ∧ 69 + 1 = 70 := ⟨by decide +kernel, rfl⟩
theorem dDI_lengthMayBe_0 : decode b_DI_lengthMayBe 0 = .ok (.iload_n 0, 1) ∧ 0 + 1 = 1 := ⟨by decide +kernel, rfl⟩
theorem dDI_lengthMayBe_1 : decode b_DI_lengthMayBe 1 = .ok (.invokestatic 175, 3) ∧ 1 + 3 = 4 := ⟨by decide +kernel, rfl⟩
theorem dDI_lengthMayBe_4 : decode b_DI_lengthMayBe 4 = .ok (.ifCond .eq (19), 3) ∧ 4 + 3 = 7 ∧ ((4 : Nat) : Int) + (19) = ((23 : Nat) : Int) := ⟨by decide +kernel, rfl, by decide⟩
theorem dDI_lengthMayBe_7 : decode b_DI_lengthMayBe 7 = .ok (.lload_n 1, 1) ∧ 7 + 1 = 8 := ⟨by decide +kernel, rfl⟩
theorem dDI_lengthMayBe_8 : decode b_DI_lengthMayBe 8 = .ok (.ldc2_w 179, 3) ∧ 8 + 3 = 11 := ⟨by decide +kernel, rfl⟩
theorem dDI_lengthMayBe_11 : decode b_DI_lengthMayBe 11 = .ok (.lrem, 1) ∧ 11 + 1 = 12 := ⟨by decide +kernel, rfl⟩
theorem dDI_lengthMayBe_12 : decode b_DI_lengthMayBe 12 = .ok (.lconst 0, 1) ∧ 12 + 1 = 13 := ⟨by decide +kernel, rfl⟩
theorem dDI_lengthMayBe_13 : decode b_DI_lengthMayBe 13 = .ok (.lcmp, 1) ∧ 13 + 1 = 14 := ⟨by decide +kernel, rfl⟩
theorem dDI_lengthMayBe_14 : decode b_DI_lengthMayBe 14 = .ok (.ifCond .ne (7), 3) ∧ 14 + 3 = 17 ∧ ((14 : Nat) : Int) + (7) = ((21 : Nat) : Int) := ⟨by decide +kernel, rfl, by decide⟩
theorem dDI_lengthMayBe_17 : decode b_DI_lengthMayBe 17 = .ok (.iconst 1, 1) ∧ 17 + 1 = 18 := ⟨by decide +kernel, rfl⟩
theorem dDI_lengthMayBe_18 : decode b_DI_lengthMayBe 18 = .ok (.goto (4), 3) ∧ 18 + 3 = 21 ∧ ((18 : Nat) : Int) + (4) = ((22 : Nat) : Int) := ⟨by decide +kernel, rfl, by decide⟩
theorem dDI_lengthMayBe_21 : decode b_DI_lengthMayBe 21 = .ok (.iconst 0, 1) ∧ 21 + 1 = 22 := ⟨by decide +kernel, rfl⟩
theorem dDI_lengthMayBe_22 : decode b_DI_lengthMayBe 22 = .ok (.ireturn, 1) ∧ 22 + 1 = 23 := ⟨by decide +kernel, rfl⟩
theorem dDI_lengthMayBe_23 : decode b_DI_lengthMayBe 23 = .ok (.iload_n 0, 1) ∧ 23 + 1 = 24 := ⟨by decide +kernel, rfl⟩
theorem dDI_lengthMayBe_24 : decode b_DI_lengthMayBe 24 = .ok (.lookupswitch (106) #[(3, 36), (4, 50), (8, 74)], 36) ∧ True := ⟨by decide +kernel, trivial⟩
theorem dDI_lengthMayBe_60 : decode b_DI_lengthMayBe 60 = .ok (.lload_n 1, 1) ∧ 60 + 1 = 61 := ⟨by decide +kernel, rfl⟩
theorem dDI_lengthMayBe_61 : decode b_DI_lengthMayBe 61 = .ok (.ldc2_w 186, 3) ∧ 61 + 3 = 64 := ⟨by decide +kernel, rfl⟩
theorem dDI_lengthMayBe_64 : decode b_DI_lengthMayBe 64 = .ok (.lcmp, 1) ∧ 64 + 1 = 65 := ⟨by decide +kernel, rfl⟩
theorem dDI_lengthMayBe_65 : decode b_DI_lengthMayBe 65 = .ok (.ifCond .gt (7), 3) ∧ 65 + 3 = 68 ∧ ((65 : Nat) : Int) + (7) = ((72 : Nat) : Int) := ⟨by decide +kernel, rfl, by decide⟩
theorem dDI_lengthMayBe_68 : decode b_DI_lengthMayBe 68 = .ok (.iconst 1, 1) ∧ 68 + 1 = 69 := ⟨by decide +kernel, rfl⟩
theorem dDI_lengthMayBe_69 : decode b_DI_lengthMayBe 69 = .ok (.goto (4), 3) ∧ 69 + 3 = 72 ∧ ((69 : Nat) : Int) + (4) = ((73 : Nat) : Int) := ⟨by decide +kernel, rfl, by decide⟩
theorem dDI_lengthMayBe_72 : decode b_DI_lengthMayBe 72 = .ok (.iconst 0, 1) ∧ 72 + 1 = 73 := ⟨by decide +kernel, rfl⟩
theorem dDI_lengthMayBe_73 : decode b_DI_lengthMayBe 73 = .ok (.ireturn, 1) ∧ 73 + 1 = 74 := ⟨by decide +kernel, rfl⟩
theorem dDI_lengthMayBe_74 : decode b_DI_lengthMayBe 74 = .ok (.lload_n 1, 1) ∧ 74 + 1 = 75 := ⟨by decide +kernel, rfl⟩
theorem dDI_lengthMayBe_75 : decode b_DI_lengthMayBe 75 = .ok (.ldc2_w 188, 3) ∧ 75 + 3 = 78 := ⟨by decide +kernel, rfl⟩
theorem dDI_lengthMayBe_78 : decode b_DI_lengthMayBe 78 = .ok (.lrem, 1) ∧ 78 + 1 = 79 := ⟨by decide +kernel, rfl⟩
theorem dDI_lengthMayBe_79 : decode b_DI_lengthMayBe 79 = .ok (.lconst 0, 1) ∧ 79 + 1 = 80 := ⟨by decide +kernel, rfl⟩
theorem dDI_lengthMayBe_80 : decode b_DI_lengthMayBe 80 = .ok (.lcmp, 1) ∧ 80 + 1 = 81 := ⟨by decide +kernel, rfl⟩
theorem dDI_lengthMayBe_81 : decode b_DI_lengthMayBe 81 = .ok (.ifCond .ne (15), 3) ∧ 81 + 3 = 84 ∧ ((81 : Nat) : Int) + (15) = ((96 : Nat) : Int) := ⟨by decide +kernel, rfl, by decide⟩
theorem dDI_lengthMayBe_84 : decode b_DI_lengthMayBe 84 = .ok (.lload_n 1, 1) ∧ 84 + 1 = 85 := ⟨by decide +kernel, rfl⟩
theorem dDI_lengthMayBe_85 : decode b_DI_lengthMayBe 85 = .ok (.ldc2_w 190, 3) ∧ 85 + 3 = 88 := ⟨by decide +kernel, rfl⟩
theorem dDI_lengthMayBe_88 : decode b_DI_lengthMayBe 88 = .ok (.lcmp, 1) ∧ 88 + 1 = 89 := ⟨by decide +kernel, rfl⟩
theorem dDI_lengthMayBe_89 : decode b_DI_lengthMayBe 89 = .ok (.ifCond .gt (7), 3) ∧ 89 + 3 = 92 ∧ ((89 : Nat) : Int) + (7) = ((96 : Nat) : Int) := ⟨by decide +kernel, rfl, by decide⟩
theorem dDI_lengthMayBe_92 : decode b_DI_lengthMayBe 92 = .ok (.iconst 1, 1) ∧ 92 + 1 = 93 := ⟨by decide +kernel, rfl⟩
theorem dDI_lengthMayBe_93 : decode b_DI_lengthMayBe 93 = .ok (.goto (4), 3) ∧ 93 + 3 = 96 ∧ ((93 : Nat) : Int) + (4) = ((97 : Nat) : Int) := ⟨by decide +kernel, rfl, by decide⟩
theorem dDI_lengthMayBe_96 : decode b_DI_lengthMayBe 96 = .ok (.iconst 0, 1) ∧ 96 + 1 = 97 := ⟨by decide +kernel, rfl⟩
theorem dDI_lengthMayBe_97 : decode b_DI_lengthMayBe 97 = .ok (.ireturn, 1) ∧ 97 + 1 = 98 := ⟨by decide +kernel, rfl⟩
theorem dDI_lengthMayBe_98 : decode b_DI_lengthMayBe 98 = .ok (.lload_n 1, 1) ∧ 98 + 1 = 99 := ⟨by decide +kernel, rfl⟩
theorem dDI_lengthMayBe_99 : decode b_DI_lengthMayBe 99 = .ok (.ldc2_w 192, 3) ∧ 99 + 3 = 102 := ⟨by decide +kernel, rfl⟩
theorem dDI_lengthMayBe_102 : decode b_DI_lengthMayBe 102 = .ok (.lrem, 1) ∧ 102 + 1 = 103 := ⟨by decide +kernel, rfl⟩
theorem dDI_lengthMayBe_103 : decode b_DI_lengthMayBe 103 = .ok (.lconst 0, 1) ∧ 103 + 1 = 104 := ⟨by decide +kernel, rfl⟩
theorem dDI_lengthMayBe_104 : decode b_DI_lengthMayBe 104 = .ok (.lcmp, 1) ∧ 104 + 1 = 105 := ⟨by decide +kernel, rfl⟩
theorem dDI_lengthMayBe_105 : decode b_DI_lengthMayBe 105 = .ok (.ifCond .ne (23), 3) ∧ 105 + 3 = 108 ∧ ((105 : Nat) : Int) + (23) = ((128 : Nat) : Int) := ⟨by decide +kernel, rfl, by decide⟩
theorem dDI_lengthMayBe_108 : decode b_DI_lengthMayBe 108 = .ok (.lload_n 1, 1) ∧ 108 + 1 = 109 := ⟨by decide +kernel, rfl⟩
theorem dDI_lengthMayBe_109 : decode b_DI_lengthMayBe 109 = .ok (.ldc2_w 192, 3) ∧ 109 + 3 = 112 := ⟨by decide +kernel, rfl⟩
theorem dDI_lengthMayBe_112 : decode b_DI_lengthMayBe 112 = .ok (.lcmp, 1) ∧ 112 + 1 = 113 := ⟨by decide +kernel, rfl⟩
theorem dDI_lengthMayBe_113 : decode b_DI_lengthMayBe 113 = .ok (.ifCond .lt (15), 3) ∧ 113 + 3 = 116 ∧ ((113 : Nat) : Int) + (15) = ((128 : Nat) : Int) := ⟨by decide +kernel, rfl, by decide⟩
theorem dDI_lengthMayBe_116 : decode b_DI_lengthMayBe 116 = .ok (.lload_n 1, 1) ∧ 116 + 1 = 117 := ⟨by decide +kernel, rfl⟩
theorem dDI_lengthMayBe_117 : decode b_DI_lengthMayBe 117 = .ok (.ldc2_w 194, 3) ∧ 117 + 3 = 120 := ⟨by decide +kernel, rfl⟩
theorem dDI_lengthMayBe_120 : decode b_DI_lengthMayBe 120 = .ok (.lcmp, 1) ∧ 120 + 1 = 121 := ⟨by decide +kernel, rfl⟩
theorem dDI_lengthMayBe_121 : decode b_DI_lengthMayBe 121 = .ok (.ifCond .gt (7), 3) ∧ 121 + 3 = 124 ∧ ((121 : Nat) : Int) + (7) = ((128 : Nat) : Int) := ⟨by decide +kernel, rfl, by decide⟩
theorem dDI_lengthMayBe_124 : decode b_DI_lengthMayBe 124 = .ok (.iconst 1, 1) ∧ 124 + 1 = 125 := ⟨by decide +kernel, rfl⟩
theorem dDI_lengthMayBe_125 : decode b_DI_lengthMayBe 125 = .ok (.goto (4), 3) ∧ 125 + 3 = 128 ∧ ((125 : Nat) : Int) + (4) = ((129 : Nat) : Int) := ⟨by decide +kernel, rfl, by decide⟩
theorem dDI_lengthMayBe_128 : decode b_DI_lengthMayBe 128 = .ok (.iconst 0, 1) ∧ 128 + 1 = 129 := ⟨by decide +kernel, rfl⟩
theorem dDI_lengthMayBe_129 : decode b_DI_lengthMayBe 129 = .ok (.ireturn, 1) ∧ 129 + 1 = 130 := ⟨by decide +kernel, rfl⟩
theorem dDI_lengthMayBe_130 : decode b_DI_lengthMayBe 130 = .ok (.iload_n 0, 1) ∧ 130 + 1 = 131 := ⟨by decide +kernel, rfl⟩
theorem dDI_lengthMayBe_131 : decode b_DI_lengthMayBe 131 = .ok (.iconst 3, 1) ∧ 131 + 1 = 132 := ⟨by decide +kernel, rfl⟩
theorem dDI_lengthMayBe_132 : decode b_DI_lengthMayBe 132 = .ok (.if_icmp .gt (11), 3) ∧ 132 + 3 = 135 ∧ ((132 : Nat) : Int) + (11) = ((143 : Nat) : Int) := ⟨by decide +kernel, rfl, by decide⟩
theorem dDI_lengthMayBe_135 : decode b_DI_lengthMayBe 135 = .ok (.lload_n 1, 1) ∧ 135 + 1 = 136 := ⟨by decide +kernel, rfl⟩
theorem dDI_lengthMayBe_136 : decode b_DI_lengthMayBe 136 = .ok (.ldc2_w 190, 3) ∧ 136 + 3 = 139 := ⟨by decide +kernel, rfl⟩
theorem dDI_lengthMayBe_139 : decode b_DI_lengthMayBe 139 = .ok (.lcmp, 1) ∧ 139 + 1 = 140 := ⟨by decide +kernel, rfl⟩
theorem dDI_lengthMayBe_140 : decode b_DI_lengthMayBe 140 = .ok (.ifCond .gt (7), 3) ∧ 140 + 3 = 143 ∧ ((140 : Nat) : Int) + (7) = ((147 : Nat) : Int) := ⟨by decide +kernel, rfl, by decide⟩
theorem dDI_lengthMayBe_143 : decode b_DI_lengthMayBe 143 = .ok (.iconst 1, 1) ∧ 143 + 1 = 144 := ⟨by decide +kernel, rfl⟩
theorem dDI_lengthMayBe_144 : decode b_DI_lengthMayBe 144 = .ok (.goto (4), 3) ∧ 144 + 3 = 147 ∧ ((144 : Nat) : Int) + (4) = ((148 : Nat) : Int) := ⟨by decide +kernel, rfl, by decide⟩
theorem dDI_lengthMayBe_147 : decode b_DI_lengthMayBe 147 = .ok (.iconst 0, 1) ∧ 147 + 1 = 148 := ⟨by decide +kernel, rfl⟩
theorem dDI_lengthMayBe_148 : decode b_DI_lengthMayBe 148 = .ok (.ireturn, 1) ∧ 148 + 1 = 149 := ⟨by decide +kernel, rfl⟩
theorem dDI_lengthsFault_0 : decode b_DI_lengthsFault 0 = .ok (.lconst 0, 1) ∧ 0 + 1 = 1 := ⟨by decide +kernel, rfl⟩
theorem dDI_lengthsFault_1 : decode b_DI_lengthsFault 1 = .ok (.lstore_n 1, 1) ∧ 1 + 1 = 2 := ⟨by decide +kernel, rfl⟩
theorem dDI_lengthsFault_2 : decode b_DI_lengthsFault 2 = .ok (.iconst 1, 1) ∧ 2 + 1 = 3 := ⟨by decide +kernel, rfl⟩
theorem dDI_lengthsFault_3 : decode b_DI_lengthsFault 3 = .ok (.istore_n 3, 1) ∧ 3 + 1 = 4 := ⟨by decide +kernel, rfl⟩
theorem dDI_lengthsFault_4 : decode b_DI_lengthsFault 4 = .ok (.iload_n 3, 1) ∧ 4 + 1 = 5 := ⟨by decide +kernel, rfl⟩
theorem dDI_lengthsFault_5 : decode b_DI_lengthsFault 5 = .ok (.aload_n 0, 1) ∧ 5 + 1 = 6 := ⟨by decide +kernel, rfl⟩
theorem dDI_lengthsFault_6 : decode b_DI_lengthsFault 6 = .ok (.getfield 51, 3) ∧ 6 + 3 = 9 := ⟨by decide +kernel, rfl⟩
theorem dDI_lengthsFault_9 : decode b_DI_lengthsFault 9 = .ok (.if_icmp .ge (75), 3) ∧ 9 + 3 = 12 ∧ ((9 : Nat) : Int) + (75) = ((84 : Nat) : Int) := ⟨by decide +kernel, rfl, by decide⟩
theorem dDI_lengthsFault_12 : decode b_DI_lengthsFault 12 = .ok (.iload_n 3, 1) ∧ 12 + 1 = 13 := ⟨by decide +kernel, rfl⟩
theorem dDI_lengthsFault_13 : decode b_DI_lengthsFault 13 = .ok (.bipush (16), 2) ∧ 13 + 2 = 15 := ⟨by decide +kernel, rfl⟩
theorem dDI_lengthsFault_15 : decode b_DI_lengthsFault 15 = .ok (.if_icmp .ge (69), 3) ∧ 15 + 3 = 18 ∧ ((15 : Nat) : Int) + (69) = ((84 : Nat) : Int) := ⟨by decide +kernel, rfl, by decide⟩
theorem dDI_lengthsFault_18 : decode b_DI_lengthsFault 18 = .ok (.aload_n 0, 1) ∧ 18 + 1 = 19 := ⟨by decide +kernel, rfl⟩
theorem dDI_lengthsFault_19 : decode b_DI_lengthsFault 19 = .ok (.iload_n 3, 1) ∧ 19 + 1 = 20 := ⟨by decide +kernel, rfl⟩
theorem dDI_lengthsFault_20 : decode b_DI_lengthsFault 20 = .ok (.iconst 5, 1) ∧ 20 + 1 = 21 := ⟨by decide +kernel, rfl⟩
theorem dDI_lengthsFault_21 : decode b_DI_lengthsFault 21 = .ok (.invokevirtual 108, 3) ∧ 21 + 3 = 24 := ⟨by decide +kernel, rfl⟩
theorem dDI_lengthsFault_24 : decode b_DI_lengthsFault 24 = .ok (.lstore 4, 2) ∧ 24 + 2 = 26 := ⟨by decide +kernel, rfl⟩
theorem dDI_lengthsFault_26 : decode b_DI_lengthsFault 26 = .ok (.aload_n 0, 1) ∧ 26 + 1 = 27 := ⟨by decide +kernel, rfl⟩
theorem dDI_lengthsFault_27 : decode b_DI_lengthsFault 27 = .ok (.getfield 9, 3) ∧ 27 + 3 = 30 := ⟨by decide +kernel, rfl⟩
theorem dDI_lengthsFault_30 : decode b_DI_lengthsFault 30 = .ok (.iload_n 3, 1) ∧ 30 + 1 = 31 := ⟨by decide +kernel, rfl⟩
theorem dDI_lengthsFault_31 : decode b_DI_lengthsFault 31 = .ok (.iaload, 1) ∧ 31 + 1 = 32 := ⟨by decide +kernel, rfl⟩
theorem dDI_lengthsFault_32 : decode b_DI_lengthsFault 32 = .ok (.invokestatic 175, 3) ∧ 32 + 3 = 35 := ⟨by decide +kernel, rfl⟩
theorem dDI_lengthsFault_35 : decode b_DI_lengthsFault 35 = .ok (.ifCond .eq (12), 3) ∧ 35 + 3 = 38 ∧ ((35 : Nat) : Int) + (12) = ((47 : Nat) : Int) := ⟨by decide +kernel, rfl, by decide⟩
theorem dDI_lengthsFault_38 : decode b_DI_lengthsFault 38 = .ok (.lload_n 1, 1) ∧ 38 + 1 = 39 := ⟨by decide +kernel, rfl⟩
theorem dDI_lengthsFault_39 : decode b_DI_lengthsFault 39 = .ok (.lload 4, 2) ∧ 39 + 2 = 41 := ⟨by decide +kernel, rfl⟩
theorem dDI_lengthsFault_41 : decode b_DI_lengthsFault 41 = .ok (.ldc2_w 179, 3) ∧ 41 + 3 = 44 := ⟨by decide +kernel, rfl⟩
theorem dDI_lengthsFault_44 : decode b_DI_lengthsFault 44 = .ok (.ldiv, 1) ∧ 44 + 1 = 45 := ⟨by decide +kernel, rfl⟩
theorem dDI_lengthsFault_45 : decode b_DI_lengthsFault 45 = .ok (.ladd, 1) ∧ 45 + 1 = 46 := ⟨by decide +kernel, rfl⟩
theorem dDI_lengthsFault_46 : decode b_DI_lengthsFault 46 = .ok (.lstore_n 1, 1) ∧ 46 + 1 = 47 := ⟨by decide +kernel, rfl⟩
theorem dDI_lengthsFault_47 : decode b_DI_lengthsFault 47 = .ok (.aload_n 0, 1) ∧ 47 + 1 = 48 := ⟨by decide +kernel, rfl⟩
theorem dDI_lengthsFault_48 : decode b_DI_lengthsFault 48 = .ok (.getfield 9, 3) ∧ 48 + 3 = 51 := ⟨by decide +kernel, rfl⟩
theorem dDI_lengthsFault_51 : decode b_DI_lengthsFault 51 = .ok (.iload_n 3, 1) ∧ 51 + 1 = 52 := ⟨by decide +kernel, rfl⟩
theorem dDI_lengthsFault_52 : decode b_DI_lengthsFault 52 = .ok (.iaload, 1) ∧ 52 + 1 = 53 := ⟨by decide +kernel, rfl⟩
theorem dDI_lengthsFault_53 : decode b_DI_lengthsFault 53 = .ok (.lload 4, 2) ∧ 53 + 2 = 55 := ⟨by decide +kernel, rfl⟩
theorem dDI_lengthsFault_55 : decode b_DI_lengthsFault 55 = .ok (.invokestatic 181, 3) ∧ 55 + 3 = 58 := ⟨by decide +kernel, rfl⟩
theorem dDI_lengthsFault_58 : decode b_DI_lengthsFault 58 = .ok (.ifCond .eq (11), 3) ∧ 58 + 3 = 61 ∧ ((58 : Nat) : Int) + (11) = ((69 : Nat) : Int) := ⟨by decide +kernel, rfl, by decide⟩
theorem dDI_lengthsFault_61 : decode b_DI_lengthsFault 61 = .ok (.lload_n 1, 1) ∧ 61 + 1 = 62 := ⟨by decide +kernel, rfl⟩
theorem dDI_lengthsFault_62 : decode b_DI_lengthsFault 62 = .ok (.ldc2_w 184, 3) ∧ 62 + 3 = 65 := ⟨by decide +kernel, rfl⟩
theorem dDI_lengthsFault_65 : decode b_DI_lengthsFault 65 = .ok (.lcmp, 1) ∧ 65 + 1 = 66 := ⟨by decide +kernel, rfl⟩
theorem dDI_lengthsFault_66 : decode b_DI_lengthsFault 66 = .ok (.ifCond .le (12), 3) ∧ 66 + 3 = 69 ∧ ((66 : Nat) : Int) + (12) = ((78 : Nat) : Int) := ⟨by decide +kernel, rfl, by decide⟩
theorem dDI_lengthsFault_69 : decode b_DI_lengthsFault 69 = .ok (.aload_n 0, 1) ∧ 69 + 1 = 70 := ⟨by decide +kernel, rfl⟩
theorem dDI_lengthsFault_70 : decode b_DI_lengthsFault 70 = .ok (.bipush (19), 2) ∧ 70 + 2 = 72 := ⟨by decide +kernel, rfl⟩
theorem dDI_lengthsFault_72 : decode b_DI_lengthsFault 72 = .ok (.iload_n 3, 1) ∧ 72 + 1 = 73 := ⟨by decide +kernel, rfl⟩
theorem dDI_lengthsFault_73 : decode b_DI_lengthsFault 73 = .ok (.iconst 5, 1) ∧ 73 + 1 = 74 := ⟨by decide +kernel, rfl⟩
theorem dDI_lengthsFault_74 : decode b_DI_lengthsFault 74 = .ok (.invokevirtual 112, 3) ∧ 74 + 3 = 77 := ⟨by decide +kernel, rfl⟩
theorem dDI_lengthsFault_77 : decode b_DI_lengthsFault 77 = .ok (.ireturn, 1) ∧ 77 + 1 = 78 := ⟨by decide +kernel, rfl⟩
theorem dDI_lengthsFault_78 : decode b_DI_lengthsFault 78 = .ok (.iinc 3 (1), 3) ∧ 78 + 3 = 81 := ⟨by decide +kernel, rfl⟩
theorem dDI_lengthsFault_81 : decode b_DI_lengthsFault 81 = .ok (.goto (-77), 3) ∧ 81 + 3 = 84 ∧ ((81 : Nat) : Int) + (-77) = ((4 : Nat) : Int) := ⟨by decide +kernel, rfl, by decide⟩
theorem dDI_lengthsFault_84 : decode b_DI_lengthsFault 84 = .ok (.iconst 0, 1) ∧ 84 + 1 = 85 := ⟨by decide +kernel, rfl⟩
theorem dDI_lengthsFault_85 : decode b_DI_lengthsFault 85 = .ok (.ireturn, 1) ∧ 85 + 1 = 86 := ⟨by decide +kernel, rfl⟩
theorem dDI_locateParts_0 : decode b_DI_locateParts 0 = .ok (.iconst 0, 1) ∧ 0 + 1 = 1 := ⟨by decide +kernel, rfl⟩
theorem dDI_locateParts_1 : decode b_DI_locateParts 1 = .ok (.istore_n 1, 1) ∧ 1 + 1 = 2 := ⟨by decide +kernel, rfl⟩
theorem dDI_locateParts_2 : decode b_DI_locateParts 2 = .ok (.iload_n 1, 1) ∧ 2 + 1 = 3 := ⟨by decide +kernel, rfl⟩
theorem dDI_locateParts_3 : decode b_DI_locateParts 3 = .ok (.bipush (11), 2) ∧ 3 + 2 = 5 := ⟨by decide +kernel, rfl⟩
theorem dDI_locateParts_5 : decode b_DI_locateParts 5 = .ok (.if_icmp .ge (80), 3) ∧ 5 + 3 = 8 ∧ ((5 : Nat) : Int) + (80) = ((85 : Nat) : Int) := ⟨by decide +kernel, rfl, by decide⟩
theorem dDI_locateParts_8 : decode b_DI_locateParts 8 = .ok (.aload_n 0, 1) ∧ 8 + 1 = 9 := ⟨by decide +kernel, rfl⟩
theorem dDI_locateParts_9 : decode b_DI_locateParts 9 = .ok (.getfield 15, 3) ∧ 9 + 3 = 12 := ⟨by decide +kernel, rfl⟩
theorem dDI_locateParts_12 : decode b_DI_locateParts 12 = .ok (.iload_n 1, 1) ∧ 12 + 1 = 13 := ⟨by decide +kernel, rfl⟩
theorem dDI_locateParts_13 : decode b_DI_locateParts 13 = .ok (.iaload, 1) ∧ 13 + 1 = 14 := ⟨by decide +kernel, rfl⟩
theorem dDI_locateParts_14 : decode b_DI_locateParts 14 = .ok (.istore_n 2, 1) ∧ 14 + 1 = 15 := ⟨by decide +kernel, rfl⟩
theorem dDI_locateParts_15 : decode b_DI_locateParts 15 = .ok (.aload_n 0, 1) ∧ 15 + 1 = 16 := ⟨by decide +kernel, rfl⟩
theorem dDI_locateParts_16 : decode b_DI_locateParts 16 = .ok (.getfield 18, 3) ∧ 16 + 3 = 19 := ⟨by decide +kernel, rfl⟩
theorem dDI_locateParts_19 : decode b_DI_locateParts 19 = .ok (.iload_n 1, 1) ∧ 19 + 1 = 20 := ⟨by decide +kernel, rfl⟩
theorem dDI_locateParts_20 : decode b_DI_locateParts 20 = .ok (.iload_n 2, 1) ∧ 20 + 1 = 21 := ⟨by decide +kernel, rfl⟩
theorem dDI_locateParts_21 : decode b_DI_locateParts 21 = .ok (.ifCond .ne (7), 3) ∧ 21 + 3 = 24 ∧ ((21 : Nat) : Int) + (7) = ((28 : Nat) : Int) := ⟨by decide +kernel, rfl, by decide⟩
theorem dDI_locateParts_24 : decode b_DI_locateParts 24 = .ok (.iconst 0, 1) ∧ 24 + 1 = 25 := ⟨by decide +kernel, rfl⟩
theorem dDI_locateParts_25 : decode b_DI_locateParts 25 = .ok (.goto (10), 3) ∧ 25 + 3 = 28 ∧ ((25 : Nat) : Int) + (10) = ((35 : Nat) : Int) := ⟨by decide +kernel, rfl, by decide⟩
theorem dDI_locateParts_28 : decode b_DI_locateParts 28 = .ok (.aload_n 0, 1) ∧ 28 + 1 = 29 := ⟨by decide +kernel, rfl⟩
theorem dDI_locateParts_29 : decode b_DI_locateParts 29 = .ok (.iload_n 2, 1) ∧ 29 + 1 = 30 := ⟨by decide +kernel, rfl⟩
theorem dDI_locateParts_30 : decode b_DI_locateParts 30 = .ok (.iconst 4, 1) ∧ 30 + 1 = 31 := ⟨by decide +kernel, rfl⟩
theorem dDI_locateParts_31 : decode b_DI_locateParts 31 = .ok (.invokevirtual 108, 3) ∧ 31 + 3 = 34 := ⟨by decide +kernel, rfl⟩
theorem dDI_locateParts_34 : decode b_DI_locateParts 34 = .ok (.l2i, 1) ∧ 34 + 1 = 35 := ⟨by decide +kernel, rfl⟩
theorem dDI_locateParts_35 : decode b_DI_locateParts 35 = .ok (.iastore, 1) ∧ 35 + 1 = 36 := ⟨by decide +kernel, rfl⟩
theorem dDI_locateParts_36 : decode b_DI_locateParts 36 = .ok (.aload_n 0, 1) ∧ 36 + 1 = 37 := ⟨by decide +kernel, rfl⟩
theorem dDI_locateParts_37 : decode b_DI_locateParts 37 = .ok (.getfield 21, 3) ∧ 37 + 3 = 40 := ⟨by decide +kernel, rfl⟩
theorem dDI_locateParts_40 : decode b_DI_locateParts 40 = .ok (.iload_n 1, 1) ∧ 40 + 1 = 41 := ⟨by decide +kernel, rfl⟩
theorem dDI_locateParts_41 : decode b_DI_locateParts 41 = .ok (.iload_n 2, 1) ∧ 41 + 1 = 42 := ⟨by decide +kernel, rfl⟩
theorem dDI_locateParts_42 : decode b_DI_locateParts 42 = .ok (.ifCond .ne (7), 3) ∧ 42 + 3 = 45 ∧ ((42 : Nat) : Int) + (7) = ((49 : Nat) : Int) := ⟨by decide +kernel, rfl, by decide⟩
theorem dDI_locateParts_45 : decode b_DI_locateParts 45 = .ok (.iconst 0, 1) ∧ 45 + 1 = 46 := ⟨by decide +kernel, rfl⟩
theorem dDI_locateParts_46 : decode b_DI_locateParts 46 = .ok (.goto (10), 3) ∧ 46 + 3 = 49 ∧ ((46 : Nat) : Int) + (10) = ((56 : Nat) : Int) := ⟨by decide +kernel, rfl, by decide⟩
theorem dDI_locateParts_49 : decode b_DI_locateParts 49 = .ok (.aload_n 0, 1) ∧ 49 + 1 = 50 := ⟨by decide +kernel, rfl⟩
theorem dDI_locateParts_50 : decode b_DI_locateParts 50 = .ok (.iload_n 2, 1) ∧ 50 + 1 = 51 := ⟨by decide +kernel, rfl⟩
theorem dDI_locateParts_51 : decode b_DI_locateParts 51 = .ok (.iconst 5, 1) ∧ 51 + 1 = 52 := ⟨by decide +kernel, rfl⟩
theorem dDI_locateParts_52 : decode b_DI_locateParts 52 = .ok (.invokevirtual 108, 3) ∧ 52 + 3 = 55 := ⟨by decide +kernel, rfl⟩
theorem dDI_locateParts_55 : decode b_DI_locateParts 55 = .ok (.l2i, 1) ∧ 55 + 1 = 56 := ⟨by decide +kernel, rfl⟩
theorem dDI_locateParts_56 : decode b_DI_locateParts 56 = .ok (.iastore, 1) ∧ 56 + 1 = 57 := ⟨by decide +kernel, rfl⟩
theorem dDI_locateParts_57 : decode b_DI_locateParts 57 = .ok (.aload_n 0, 1) ∧ 57 + 1 = 58 := ⟨by decide +kernel, rfl⟩
theorem dDI_locateParts_58 : decode b_DI_locateParts 58 = .ok (.getfield 24, 3) ∧ 58 + 3 = 61 := ⟨by decide +kernel, rfl⟩
theorem dDI_locateParts_61 : decode b_DI_locateParts 61 = .ok (.iload_n 1, 1) ∧ 61 + 1 = 62 := ⟨by decide +kernel, rfl⟩
theorem dDI_locateParts_62 : decode b_DI_locateParts 62 = .ok (.iload_n 2, 1) ∧ 62 + 1 = 63 := ⟨by decide +kernel, rfl⟩
theorem dDI_locateParts_63 : decode b_DI_locateParts 63 = .ok (.ifCond .ne (7), 3) ∧ 63 + 3 = 66 ∧ ((63 : Nat) : Int) + (7) = ((70 : Nat) : Int) := ⟨by decide +kernel, rfl, by decide⟩
theorem dDI_locateParts_66 : decode b_DI_locateParts 66 = .ok (.iconst 1, 1) ∧ 66 + 1 = 67 := ⟨by decide +kernel, rfl⟩
theorem dDI_locateParts_67 : decode b_DI_locateParts 67 = .ok (.goto (11), 3) ∧ 67 + 3 = 70 ∧ ((67 : Nat) : Int) + (11) = ((78 : Nat) : Int) := ⟨by decide +kernel, rfl, by decide⟩
theorem dDI_locateParts_70 : decode b_DI_locateParts 70 = .ok (.aload_n 0, 1) ∧ 70 + 1 = 71 := ⟨by decide +kernel, rfl⟩
theorem dDI_locateParts_71 : decode b_DI_locateParts 71 = .ok (.iload_n 2, 1) ∧ 71 + 1 = 72 := ⟨by decide +kernel, rfl⟩
theorem dDI_locateParts_72 : decode b_DI_locateParts 72 = .ok (.bipush (8), 2) ∧ 72 + 2 = 74 := ⟨by decide +kernel, rfl⟩
theorem dDI_locateParts_74 : decode b_DI_locateParts 74 = .ok (.invokevirtual 108, 3) ∧ 74 + 3 = 77 := ⟨by decide +kernel, rfl⟩
theorem dDI_locateParts_77 : decode b_DI_locateParts 77 = .ok (.l2i, 1) ∧ 77 + 1 = 78 := ⟨by decide +kernel, rfl⟩
theorem dDI_locateParts_78 : decode b_DI_locateParts 78 = .ok (.iastore, 1) ∧ 78 + 1 = 79 := ⟨by decide +kernel, rfl⟩
theorem dDI_locateParts_79 : decode b_DI_locateParts 79 = .ok (.iinc 1 (1), 3) ∧ 79 + 3 = 82 := ⟨by decide +kernel, rfl⟩
theorem dDI_locateParts_82 : decode b_DI_locateParts 82 = .ok (.goto (-80), 3) ∧ 82 + 3 = 85 ∧ ((82 : Nat) : Int) + (-80) = ((2 : Nat) : Int) := ⟨by decide +kernel, rfl, by decide⟩
theorem dDI_locateParts_85 : decode b_DI_locateParts 85 = .ok (.return_, 1) ∧ 85 + 1 = 86 := ⟨by decide +kernel, rfl⟩
theorem dDI_firstFault_0 : decode b_DI_firstFault 0 = .ok (.aload_n 0, 1) ∧ 0 + 1 = 1 := ⟨by decide +kernel, rfl⟩
theorem dDI_firstFault_1 : decode b_DI_firstFault 1 = .ok (.invokevirtual 54, 3) ∧ 1 + 3 = 4 := ⟨by decide +kernel, rfl⟩
theorem dDI_firstFault_4 : decode b_DI_firstFault 4 = .ok (.istore_n 1, 1) ∧ 4 + 1 = 5 := ⟨by decide +kernel, rfl⟩
theorem dDI_firstFault_5 : decode b_DI_firstFault 5 = .ok (.iload_n 1, 1) ∧ 5 + 1 = 6 := ⟨by decide +kernel, rfl⟩
theorem dDI_firstFault_6 : decode b_DI_firstFault 6 = .ok (.ifCond .eq (7), 3) ∧ 6 + 3 = 9 ∧ ((6 : Nat) : Int) + (7) = ((13 : Nat) : Int) := ⟨by decide +kernel, rfl, by decide⟩
theorem dDI_firstFault_9 : decode b_DI_firstFault 9 = .ok (.iload_n 1, 1) ∧ 9 + 1 = 10 := ⟨by decide +kernel, rfl⟩
theorem dDI_firstFault_10 : decode b_DI_firstFault 10 = .ok (.goto (7), 3) ∧ 10 + 3 = 13 ∧ ((10 : Nat) : Int) + (7) = ((17 : Nat) : Int) := ⟨by decide +kernel, rfl, by decide⟩
theorem dDI_firstFault_13 : decode b_DI_firstFault 13 = .ok (.aload_n 0, 1) ∧ 13 + 1 = 14 := ⟨by decide +kernel, rfl⟩
theorem dDI_firstFault_14 : decode b_DI_firstFault 14 = .ok (.invokevirtual 58, 3) ∧ 14 + 3 = 17 := ⟨by decide +kernel, rfl⟩
theorem dDI_firstFault_17 : decode b_DI_firstFault 17 = .ok (.istore_n 1, 1) ∧ 17 + 1 = 18 := ⟨by decide +kernel, rfl⟩
theorem dDI_firstFault_18 : decode b_DI_firstFault 18 = .ok (.iload_n 1, 1) ∧ 18 + 1 = 19 := ⟨by decide +kernel, rfl⟩
theorem dDI_firstFault_19 : decode b_DI_firstFault 19 = .ok (.ifCond .eq (7), 3) ∧ 19 + 3 = 22 ∧ ((19 : Nat) : Int) + (7) = ((26 : Nat) : Int) := ⟨by decide +kernel, rfl, by decide⟩
theorem dDI_firstFault_22 : decode b_DI_firstFault 22 = .ok (.iload_n 1, 1) ∧ 22 + 1 = 23 := ⟨by decide +kernel, rfl⟩
theorem dDI_firstFault_23 : decode b_DI_firstFault 23 = .ok (.goto (7), 3) ∧ 23 + 3 = 26 ∧ ((23 : Nat) : Int) + (7) = ((30 : Nat) : Int) := ⟨by decide +kernel, rfl, by decide⟩
theorem dDI_firstFault_26 : decode b_DI_firstFault 26 = .ok (.aload_n 0, 1) ∧ 26 + 1 = 27 := ⟨by decide +kernel, rfl⟩
theorem dDI_firstFault_27 : decode b_DI_firstFault 27 = .ok (.invokevirtual 61, 3) ∧ 27 + 3 = 30 := ⟨by decide +kernel, rfl⟩
theorem dDI_firstFault_30 : decode b_DI_firstFault 30 = .ok (.istore_n 1, 1) ∧ 30 + 1 = 31 := ⟨by decide +kernel, rfl⟩
theorem dDI_firstFault_31 : decode b_DI_firstFault 31 = .ok (.iload_n 1, 1) ∧ 31 + 1 = 32 := ⟨by decide +kernel, rfl⟩
theorem dDI_firstFault_32 : decode b_DI_firstFault 32 = .ok (.ifCond .eq (7), 3) ∧ 32 + 3 = 35 ∧ ((32 : Nat) : Int) + (7) = ((39 : Nat) : Int) := ⟨by decide +kernel, rfl, by decide⟩
theorem dDI_firstFault_35 : decode b_DI_firstFault 35 = .ok (.iload_n 1, 1) ∧ 35 + 1 = 36 := ⟨by decide +kernel, rfl⟩
theorem dDI_firstFault_36 : decode b_DI_firstFault 36 = .ok (.goto (13), 3) ∧ 36 + 3 = 39 ∧ ((36 : Nat) : Int) + (13) = ((49 : Nat) : Int) := ⟨by decide +kernel, rfl, by decide⟩
theorem dDI_firstFault_39 : decode b_DI_firstFault 39 = .ok (.aload_n 0, 1) ∧ 39 + 1 = 40 := ⟨by decide +kernel, rfl⟩
theorem dDI_firstFault_40 : decode b_DI_firstFault 40 = .ok (.bipush (15), 2) ∧ 40 + 2 = 42 := ⟨by decide +kernel, rfl⟩
theorem dDI_firstFault_42 : decode b_DI_firstFault 42 = .ok (.aload_n 0, 1) ∧ 42 + 1 = 43 := ⟨by decide +kernel, rfl⟩
theorem dDI_firstFault_43 : decode b_DI_firstFault 43 = .ok (.getfield 64, 3) ∧ 43 + 3 = 46 := ⟨by decide +kernel, rfl⟩
theorem dDI_firstFault_46 : decode b_DI_firstFault 46 = .ok (.invokevirtual 67, 3) ∧ 46 + 3 = 49 := ⟨by decide +kernel, rfl⟩
theorem dDI_firstFault_49 : decode b_DI_firstFault 49 = .ok (.istore_n 1, 1) ∧ 49 + 1 = 50 := ⟨by decide +kernel, rfl⟩
theorem dDI_firstFault_50 : decode b_DI_firstFault 50 = .ok (.iload_n 1, 1) ∧ 50 + 1 = 51 := ⟨by decide +kernel, rfl⟩
theorem dDI_firstFault_51 : decode b_DI_firstFault 51 = .ok (.ifCond .eq (7), 3) ∧ 51 + 3 = 54 ∧ ((51 : Nat) : Int) + (7) = ((58 : Nat) : Int) := ⟨by decide +kernel, rfl, by decide⟩
theorem dDI_firstFault_54 : decode b_DI_firstFault 54 = .ok (.iload_n 1, 1) ∧ 54 + 1 = 55 := ⟨by decide +kernel, rfl⟩
theorem dDI_firstFault_55 : decode b_DI_firstFault 55 = .ok (.goto (7), 3) ∧ 55 + 3 = 58 ∧ ((55 : Nat) : Int) + (7) = ((62 : Nat) : Int) := ⟨by decide +kernel, rfl, by decide⟩
theorem dDI_firstFault_58 : decode b_DI_firstFault 58 = .ok (.aload_n 0, 1) ∧ 58 + 1 = 59 := ⟨by decide +kernel, rfl⟩
theorem dDI_firstFault_59 : decode b_DI_firstFault 59 = .ok (.invokevirtual 70, 3) ∧ 59 + 3 = 62 := ⟨by decide +kernel, rfl⟩
theorem dDI_firstFault_62 : decode b_DI_firstFault 62 = .ok (.istore_n 1, 1) ∧ 62 + 1 = 63 := ⟨by decide +kernel, rfl⟩
theorem dDI_firstFault_63 : decode b_DI_firstFault 63 = .ok (.iload_n 1, 1) ∧ 63 + 1 = 64 := ⟨by decide +kernel, rfl⟩
theorem dDI_firstFault_64 : decode b_DI_firstFault 64 = .ok (.ifCond .eq (7), 3) ∧ 64 + 3 = 67 ∧ ((64 : Nat) : Int) + (7) = ((71 : Nat) : Int) := ⟨by decide +kernel, rfl, by decide⟩
theorem dDI_firstFault_67 : decode b_DI_firstFault 67 = .ok (.iload_n 1, 1) ∧ 67 + 1 = 68 := ⟨by decide +kernel, rfl⟩
theorem dDI_firstFault_68 : decode b_DI_firstFault 68 = .ok (.goto (7), 3) ∧ 68 + 3 = 71 ∧ ((68 : Nat) : Int) + (7) = ((75 : Nat) : Int) := ⟨by decide +kernel, rfl, by decide⟩
theorem dDI_firstFault_71 : decode b_DI_firstFault 71 = .ok (.aload_n 0, 1) ∧ 71 + 1 = 72 := ⟨by decide +kernel, rfl⟩
theorem dDI_firstFault_72 : decode b_DI_firstFault 72 = .ok (.invokevirtual 73, 3) ∧ 72 + 3 = 75 := ⟨by decide +kernel, rfl⟩
theorem dDI_firstFault_75 : decode b_DI_firstFault 75 = .ok (.istore_n 1, 1) ∧ 75 + 1 = 76 := ⟨by decide +kernel, rfl⟩
theorem dDI_firstFault_76 : decode b_DI_firstFault 76 = .ok (.iload_n 1, 1) ∧ 76 + 1 = 77 := ⟨by decide +kernel, rfl⟩
theorem dDI_firstFault_77 : decode b_DI_firstFault 77 = .ok (.ifCond .eq (7), 3) ∧ 77 + 3 = 80 ∧ ((77 : Nat) : Int) + (7) = ((84 : Nat) : Int) := ⟨by decide +kernel, rfl, by decide⟩
theorem dDI_firstFault_80 : decode b_DI_firstFault 80 = .ok (.iload_n 1, 1) ∧ 80 + 1 = 81 := ⟨by decide +kernel, rfl⟩
theorem dDI_firstFault_81 : decode b_DI_firstFault 81 = .ok (.goto (7), 3) ∧ 81 + 3 = 84 ∧ ((81 : Nat) : Int) + (7) = ((88 : Nat) : Int) := ⟨by decide +kernel, rfl, by decide⟩
theorem dDI_firstFault_84 : decode b_DI_firstFault 84 = .ok (.aload_n 0, 1) ∧ 84 + 1 = 85 := ⟨by decide +kernel, rfl⟩
theorem dDI_firstFault_85 : decode b_DI_firstFault 85 = .ok (.invokevirtual 76, 3) ∧ 85 + 3 = 88 := ⟨by decide +kernel, rfl⟩
theorem dDI_firstFault_88 : decode b_DI_firstFault 88 = .ok (.istore_n 1, 1) ∧ 88 + 1 = 89 := ⟨by decide +kernel, rfl⟩
theorem dDI_firstFault_89 : decode b_DI_firstFault 89 = .ok (.iload_n 1, 1) ∧ 89 + 1 = 90 := ⟨by decide +kernel, rfl⟩
theorem dDI_firstFault_90 : decode b_DI_firstFault 90 = .ok (.ifCond .eq (7), 3) ∧ 90 + 3 = 93 ∧ ((90 : Nat) : Int) + (7) = ((97 : Nat) : Int) := ⟨by decide +kernel, rfl, by decide⟩
theorem dDI_firstFault_93 : decode b_DI_firstFault 93 = .ok (.iload_n 1, 1) ∧ 93 + 1 = 94 := ⟨by decide +kernel, rfl⟩
theorem dDI_firstFault_94 : decode b_DI_firstFault 94 = .ok (.goto (7), 3) ∧ 94 + 3 = 97 ∧ ((94 : Nat) : Int) + (7) = ((101 : Nat) : Int) := ⟨by decide +kernel, rfl, by decide⟩
theorem dDI_firstFault_97 : decode b_DI_firstFault 97 = .ok (.aload_n 0, 1) ∧ 97 + 1 = 98 := ⟨by decide +kernel, rfl⟩
theorem dDI_firstFault_98 : decode b_DI_firstFault 98 = .ok (.invokevirtual 79, 3) ∧ 98 + 3 = 101 := ⟨by decide +kernel, rfl⟩
theorem dDI_firstFault_101 : decode b_DI_firstFault 101 = .ok (.istore_n 1, 1) ∧ 101 + 1 = 102 := ⟨by decide +kernel, rfl⟩
theorem dDI_firstFault_102 : decode b_DI_firstFault 102 = .ok (.iload_n 1, 1) ∧ 102 + 1 = 103 := ⟨by decide +kernel, rfl⟩
theorem dDI_firstFault_103 : decode b_DI_firstFault 103 = .ok (.ifCond .eq (7), 3) ∧ 103 + 3 = 106 ∧ ((103 : Nat) : Int) + (7) = ((110 : Nat) : Int) := ⟨by decide +kernel, rfl, by decide⟩
theorem dDI_firstFault_106 : decode b_DI_firstFault 106 = .ok (.iload_n 1, 1) ∧ 106 + 1 = 107 := ⟨by decide +kernel, rfl⟩
theorem dDI_firstFault_107 : decode b_DI_firstFault 107 = .ok (.goto (16), 3) ∧ 107 + 3 = 110 ∧ ((107 : Nat) : Int) + (16) = ((123 : Nat) : Int) := ⟨by decide +kernel, rfl, by decide⟩
theorem dDI_firstFault_110 : decode b_DI_firstFault 110 = .ok (.aload_n 0, 1) ∧ 110 + 1 = 111 := ⟨by decide +kernel, rfl⟩
theorem dDI_firstFault_111 : decode b_DI_firstFault 111 = .ok (.bipush (20), 2) ∧ 111 + 2 = 113 := ⟨by decide +kernel, rfl⟩
theorem dDI_firstFault_113 : decode b_DI_firstFault 113 = .ok (.aload_n 0, 1) ∧ 113 + 1 = 114 := ⟨by decide +kernel, rfl⟩
theorem dDI_firstFault_114 : decode b_DI_firstFault 114 = .ok (.getfield 15, 3) ∧ 114 + 3 = 117 := ⟨by decide +kernel, rfl⟩
theorem dDI_firstFault_117 : decode b_DI_firstFault 117 = .ok (.bipush (9), 2) ∧ 117 + 2 = 119 := ⟨by decide +kernel, rfl⟩
theorem dDI_firstFault_119 : decode b_DI_firstFault 119 = .ok (.iaload, 1) ∧ 119 + 1 = 120 := ⟨by decide +kernel, rfl⟩
theorem dDI_firstFault_120 : decode b_DI_firstFault 120 = .ok (.invokevirtual 67, 3) ∧ 120 + 3 = 123 := ⟨by decide +kernel, rfl⟩
theorem dDI_firstFault_123 : decode b_DI_firstFault 123 = .ok (.istore_n 1, 1) ∧ 123 + 1 = 124 := ⟨by decide +kernel, rfl⟩
theorem dDI_firstFault_124 : decode b_DI_firstFault 124 = .ok (.iload_n 1, 1) ∧ 124 + 1 = 125 := ⟨by decide +kernel, rfl⟩
theorem dDI_firstFault_125 : decode b_DI_firstFault 125 = .ok (.ifCond .ne (7), 3) ∧ 125 + 3 = 128 ∧ ((125 : Nat) : Int) + (7) = ((132 : Nat) : Int) := ⟨by decide +kernel, rfl, by decide⟩
theorem dDI_firstFault_128 : decode b_DI_firstFault 128 = .ok (.aload_n 0, 1) ∧ 128 + 1 = 129 := ⟨by decide +kernel, rfl⟩
theorem dDI_firstFault_129 : decode b_DI_firstFault 129 = .ok (.invokevirtual 82, 3) ∧ 129 + 3 = 132 := ⟨by decide +kernel, rfl⟩
theorem dDI_firstFault_132 : decode b_DI_firstFault 132 = .ok (.iload_n 1, 1) ∧ 132 + 1 = 133 := ⟨by decide +kernel, rfl⟩
theorem dDI_firstFault_133 : decode b_DI_firstFault 133 = .ok (.ireturn, 1) ∧ 133 + 1 = 134 := ⟨by decide +kernel, rfl⟩
theorem dRE_symbolRows_0 : decode b_RE_symbolRows 0 = .ok (.aload_n 0, 1) ∧ 0 + 1 = 1 := ⟨by decide +kernel, rfl⟩
theorem dRE_symbolRows_1 : decode b_RE_symbolRows 1 = .ok (.getfield 19, 3) ∧ 1 + 3 = 4 := ⟨by decide +kernel, rfl⟩
theorem dRE_symbolRows_4 : decode b_RE_symbolRows 4 = .ok (.getfield 33, 3) ∧ 4 + 3 = 7 := ⟨by decide +kernel, rfl⟩
theorem dRE_symbolRows_7 : decode b_RE_symbolRows 7 = .ok (.bipush (8), 2) ∧ 7 + 2 = 9 := ⟨by decide +kernel, rfl⟩
theorem dRE_symbolRows_9 : decode b_RE_symbolRows 9 = .ok (.iaload, 1) ∧ 9 + 1 = 10 := ⟨by decide +kernel, rfl⟩
theorem dRE_symbolRows_10 : decode b_RE_symbolRows 10 = .ok (.bipush (16), 2) ∧ 10 + 2 = 12 := ⟨by decide +kernel, rfl⟩
theorem dRE_symbolRows_12 : decode b_RE_symbolRows 12 = .ok (.idiv, 1) ∧ 12 + 1 = 13 := ⟨by decide +kernel, rfl⟩
theorem dRE_symbolRows_13 : decode b_RE_symbolRows 13 = .ok (.ireturn, 1) ∧ 13 + 1 = 14 := ⟨by decide +kernel, rfl⟩
theorem dRE_symbolNumber_0 : decode b_RE_symbolNumber 0 = .ok (.aload_n 0, 1) ∧ 0 + 1 = 1 := ⟨by decide +kernel, rfl⟩
theorem dRE_symbolNumber_1 : decode b_RE_symbolNumber 1 = .ok (.getfield 9, 3) ∧ 1 + 3 = 4 := ⟨by decide +kernel, rfl⟩
theorem dRE_symbolNumber_4 : decode b_RE_symbolNumber 4 = .ok (.iload_n 1, 1) ∧ 4 + 1 = 5 := ⟨by decide +kernel, rfl⟩
theorem dRE_symbolNumber_5 : decode b_RE_symbolNumber 5 = .ok (.iconst 4, 1) ∧ 5 + 1 = 6 := ⟨by decide +kernel, rfl⟩
theorem dRE_symbolNumber_6 : decode b_RE_symbolNumber 6 = .ok (.iadd, 1) ∧ 6 + 1 = 7 := ⟨by decide +kernel, rfl⟩
theorem dRE_symbolNumber_7 : decode b_RE_symbolNumber 7 = .ok (.invokevirtual 98, 3) ∧ 7 + 3 = 10 := ⟨by decide +kernel, rfl⟩
theorem dRE_symbolNumber_10 : decode b_RE_symbolNumber 10 = .ok (.bipush (8), 2) ∧ 10 + 2 = 12 := ⟨by decide +kernel, rfl⟩
theorem dRE_symbolNumber_12 : decode b_RE_symbolNumber 12 = .ok (.lushr, 1) ∧ 12 + 1 = 13 := ⟨by decide +kernel, rfl⟩
theorem dRE_symbolNumber_13 : decode b_RE_symbolNumber 13 = .ok (.l2i, 1) ∧ 13 + 1 = 14 := ⟨by decide +kernel, rfl⟩
theorem dRE_symbolNumber_14 : decode b_RE_symbolNumber 14 = .ok (.ireturn, 1) ∧ 14 + 1 = 15 := ⟨by decide +kernel, rfl⟩
theorem dRE_fillRelocations_0 : decode b_RE_fillRelocations 0 = .ok (.aload_n 0, 1) ∧ 0 + 1 = 1 := ⟨by decide +kernel, rfl⟩
theorem dRE_fillRelocations_1 : decode b_RE_fillRelocations 1 = .ok (.getfield 19, 3) ∧ 1 + 3 = 4 := ⟨by decide +kernel, rfl⟩
theorem dRE_fillRelocations_4 : decode b_RE_fillRelocations 4 = .ok (.getfield 39, 3) ∧ 4 + 3 = 7 := ⟨by decide +kernel, rfl⟩
theorem dRE_fillRelocations_7 : decode b_RE_fillRelocations 7 = .ok (.iconst 5, 1) ∧ 7 + 1 = 8 := ⟨by decide +kernel, rfl⟩
theorem dRE_fillRelocations_8 : decode b_RE_fillRelocations 8 = .ok (.iload_n 2, 1) ∧ 8 + 1 = 9 := ⟨by decide +kernel, rfl⟩
theorem dRE_fillRelocations_9 : decode b_RE_fillRelocations 9 = .ok (.iadd, 1) ∧ 9 + 1 = 10 := ⟨by decide +kernel, rfl⟩
theorem dRE_fillRelocations_10 : decode b_RE_fillRelocations 10 = .ok (.iaload, 1) ∧ 10 + 1 = 11 := ⟨by decide +kernel, rfl⟩
theorem dRE_fillRelocations_11 : decode b_RE_fillRelocations 11 = .ok (.istore_n 3, 1) ∧ 11 + 1 = 12 := ⟨by decide +kernel, rfl⟩
theorem dRE_fillRelocations_12 : decode b_RE_fillRelocations 12 = .ok (.iload_n 3, 1) ∧ 12 + 1 = 13 := ⟨by decide +kernel, rfl⟩
theorem dRE_fillRelocations_13 : decode b_RE_fillRelocations 13 = .ok (.aload_n 0, 1) ∧ 13 + 1 = 14 := ⟨by decide +kernel, rfl⟩
theorem dRE_fillRelocations_14 : decode b_RE_fillRelocations 14 = .ok (.getfield 19, 3) ∧ 14 + 3 = 17 := ⟨by decide +kernel, rfl⟩
theorem dRE_fillRelocations_17 : decode b_RE_fillRelocations 17 = .ok (.getfield 33, 3) ∧ 17 + 3 = 20 := ⟨by decide +kernel, rfl⟩
theorem dRE_fillRelocations_20 : decode b_RE_fillRelocations 20 = .ok (.iconst 5, 1) ∧ 20 + 1 = 21 := ⟨by decide +kernel, rfl⟩
theorem dRE_fillRelocations_21 : decode b_RE_fillRelocations 21 = .ok (.iload_n 2, 1) ∧ 21 + 1 = 22 := ⟨by decide +kernel, rfl⟩
theorem dRE_fillRelocations_22 : decode b_RE_fillRelocations 22 = .ok (.iadd, 1) ∧ 22 + 1 = 23 := ⟨by decide +kernel, rfl⟩
theorem dRE_fillRelocations_23 : decode b_RE_fillRelocations 23 = .ok (.iaload, 1) ∧ 23 + 1 = 24 := ⟨by decide +kernel, rfl⟩
theorem dRE_fillRelocations_24 : decode b_RE_fillRelocations 24 = .ok (.iadd, 1) ∧ 24 + 1 = 25 := ⟨by decide +kernel, rfl⟩
theorem dRE_fillRelocations_25 : decode b_RE_fillRelocations 25 = .ok (.istore 4, 2) ∧ 25 + 2 = 27 := ⟨by decide +kernel, rfl⟩
theorem dRE_fillRelocations_27 : decode b_RE_fillRelocations 27 = .ok (.iload_n 3, 1) ∧ 27 + 1 = 28 := ⟨by decide +kernel, rfl⟩
theorem dRE_fillRelocations_28 : decode b_RE_fillRelocations 28 = .ok (.istore 5, 2) ∧ 28 + 2 = 30 := ⟨by decide +kernel, rfl⟩
theorem dRE_fillRelocations_30 : decode b_RE_fillRelocations 30 = .ok (.iload 5, 2) ∧ 30 + 2 = 32 := ⟨by decide +kernel, rfl⟩
theorem dRE_fillRelocations_32 : decode b_RE_fillRelocations 32 = .ok (.iload 4, 2) ∧ 32 + 2 = 34 := ⟨by decide +kernel, rfl⟩
theorem dRE_fillRelocations_34 : decode b_RE_fillRelocations 34 = .ok (.if_icmp .ge (61), 3) ∧ 34 + 3 = 37 ∧ ((34 : Nat) : Int) + (61) = ((95 : Nat) : Int) := ⟨by decide +kernel, rfl, by decide⟩
theorem dRE_fillRelocations_37 : decode b_RE_fillRelocations 37 = .ok (.aload_n 0, 1) ∧ 37 + 1 = 38 := ⟨by decide +kernel, rfl⟩
theorem dRE_fillRelocations_38 : decode b_RE_fillRelocations 38 = .ok (.iload 5, 2) ∧ 38 + 2 = 40 := ⟨by decide +kernel, rfl⟩
theorem dRE_fillRelocations_40 : decode b_RE_fillRelocations 40 = .ok (.invokevirtual 127, 3) ∧ 40 + 3 = 43 := ⟨by decide +kernel, rfl⟩
theorem dRE_fillRelocations_43 : decode b_RE_fillRelocations 43 = .ok (.iconst 1, 1) ∧ 43 + 1 = 44 := ⟨by decide +kernel, rfl⟩
theorem dRE_fillRelocations_44 : decode b_RE_fillRelocations 44 = .ok (.isub, 1) ∧ 44 + 1 = 45 := ⟨by decide +kernel, rfl⟩
theorem dRE_fillRelocations_45 : decode b_RE_fillRelocations 45 = .ok (.istore 6, 2) ∧ 45 + 2 = 47 := ⟨by decide +kernel, rfl⟩
theorem dRE_fillRelocations_47 : decode b_RE_fillRelocations 47 = .ok (.aload_n 1, 1) ∧ 47 + 1 = 48 := ⟨by decide +kernel, rfl⟩
theorem dRE_fillRelocations_48 : decode b_RE_fillRelocations 48 = .ok (.iload_n 2, 1) ∧ 48 + 1 = 49 := ⟨by decide +kernel, rfl⟩
theorem dRE_fillRelocations_49 : decode b_RE_fillRelocations 49 = .ok (.aload_n 0, 1) ∧ 49 + 1 = 50 := ⟨by decide +kernel, rfl⟩
theorem dRE_fillRelocations_50 : decode b_RE_fillRelocations 50 = .ok (.getfield 9, 3) ∧ 50 + 3 = 53 := ⟨by decide +kernel, rfl⟩
theorem dRE_fillRelocations_53 : decode b_RE_fillRelocations 53 = .ok (.iload 5, 2) ∧ 53 + 2 = 55 := ⟨by decide +kernel, rfl⟩
theorem dRE_fillRelocations_55 : decode b_RE_fillRelocations 55 = .ok (.invokevirtual 98, 3) ∧ 55 + 3 = 58 := ⟨by decide +kernel, rfl⟩
theorem dRE_fillRelocations_58 : decode b_RE_fillRelocations 58 = .ok (.l2i, 1) ∧ 58 + 1 = 59 := ⟨by decide +kernel, rfl⟩
theorem dRE_fillRelocations_59 : decode b_RE_fillRelocations 59 = .ok (.aload_n 0, 1) ∧ 59 + 1 = 60 := ⟨by decide +kernel, rfl⟩
theorem dRE_fillRelocations_60 : decode b_RE_fillRelocations 60 = .ok (.getfield 9, 3) ∧ 60 + 3 = 63 := ⟨by decide +kernel, rfl⟩
theorem dRE_fillRelocations_63 : decode b_RE_fillRelocations 63 = .ok (.iload 5, 2) ∧ 63 + 2 = 65 := ⟨by decide +kernel, rfl⟩
theorem dRE_fillRelocations_65 : decode b_RE_fillRelocations 65 = .ok (.iconst 4, 1) ∧ 65 + 1 = 66 := ⟨by decide +kernel, rfl⟩
theorem dRE_fillRelocations_66 : decode b_RE_fillRelocations 66 = .ok (.iadd, 1) ∧ 66 + 1 = 67 := ⟨by decide +kernel, rfl⟩
theorem dRE_fillRelocations_67 : decode b_RE_fillRelocations 67 = .ok (.invokevirtual 42, 3) ∧ 67 + 3 = 70 := ⟨by decide +kernel, rfl⟩
theorem dRE_fillRelocations_70 : decode b_RE_fillRelocations 70 = .ok (.iload 6, 2) ∧ 70 + 2 = 72 := ⟨by decide +kernel, rfl⟩
theorem dRE_fillRelocations_72 : decode b_RE_fillRelocations 72 = .ok (.aload_n 0, 1) ∧ 72 + 1 = 73 := ⟨by decide +kernel, rfl⟩
theorem dRE_fillRelocations_73 : decode b_RE_fillRelocations 73 = .ok (.getfield 9, 3) ∧ 73 + 3 = 76 := ⟨by decide +kernel, rfl⟩
theorem dRE_fillRelocations_76 : decode b_RE_fillRelocations 76 = .ok (.iload 5, 2) ∧ 76 + 2 = 78 := ⟨by decide +kernel, rfl⟩
theorem dRE_fillRelocations_78 : decode b_RE_fillRelocations 78 = .ok (.bipush (8), 2) ∧ 78 + 2 = 80 := ⟨by decide +kernel, rfl⟩
theorem dRE_fillRelocations_80 : decode b_RE_fillRelocations 80 = .ok (.iadd, 1) ∧ 80 + 1 = 81 := ⟨by decide +kernel, rfl⟩
theorem dRE_fillRelocations_81 : decode b_RE_fillRelocations 81 = .ok (.invokevirtual 98, 3) ∧ 81 + 3 = 84 := ⟨by decide +kernel, rfl⟩
theorem dRE_fillRelocations_84 : decode b_RE_fillRelocations 84 = .ok (.l2i, 1) ∧ 84 + 1 = 85 := ⟨by decide +kernel, rfl⟩
theorem dRE_fillRelocations_85 : decode b_RE_fillRelocations 85 = .ok (.invokevirtual 181, 3) ∧ 85 + 3 = 88 := ⟨by decide +kernel, rfl⟩
theorem dRE_fillRelocations_88 : decode b_RE_fillRelocations 88 = .ok (.pop, 1) ∧ 88 + 1 = 89 := ⟨by decide +kernel, rfl⟩
theorem dRE_fillRelocations_89 : decode b_RE_fillRelocations 89 = .ok (.iinc 5 (12), 3) ∧ 89 + 3 = 92 := ⟨by decide +kernel, rfl⟩
theorem dRE_fillRelocations_92 : decode b_RE_fillRelocations 92 = .ok (.goto (-62), 3) ∧ 92 + 3 = 95 ∧ ((92 : Nat) : Int) + (-62) = ((30 : Nat) : Int) := ⟨by decide +kernel, rfl, by decide⟩
theorem dRE_fillRelocations_95 : decode b_RE_fillRelocations 95 = .ok (.return_, 1) ∧ 95 + 1 = 96 := ⟨by decide +kernel, rfl⟩
theorem dRE_nameSpot_0 : decode b_RE_nameSpot 0 = .ok (.aload_n 0, 1) ∧ 0 + 1 = 1 := ⟨by decide +kernel, rfl⟩
theorem dRE_nameSpot_1 : decode b_RE_nameSpot 1 = .ok (.getfield 19, 3) ∧ 1 + 3 = 4 := ⟨by decide +kernel, rfl⟩
theorem dRE_nameSpot_4 : decode b_RE_nameSpot 4 = .ok (.getfield 39, 3) ∧ 4 + 3 = 7 := ⟨by decide +kernel, rfl⟩
theorem dRE_nameSpot_7 : decode b_RE_nameSpot 7 = .ok (.bipush (9), 2) ∧ 7 + 2 = 9 := ⟨by decide +kernel, rfl⟩
theorem dRE_nameSpot_9 : decode b_RE_nameSpot 9 = .ok (.iaload, 1) ∧ 9 + 1 = 10 := ⟨by decide +kernel, rfl⟩
theorem dRE_nameSpot_10 : decode b_RE_nameSpot 10 = .ok (.aload_n 0, 1) ∧ 10 + 1 = 11 := ⟨by decide +kernel, rfl⟩
theorem dRE_nameSpot_11 : decode b_RE_nameSpot 11 = .ok (.getfield 9, 3) ∧ 11 + 3 = 14 := ⟨by decide +kernel, rfl⟩
theorem dRE_nameSpot_14 : decode b_RE_nameSpot 14 = .ok (.iload_n 1, 1) ∧ 14 + 1 = 15 := ⟨by decide +kernel, rfl⟩
theorem dRE_nameSpot_15 : decode b_RE_nameSpot 15 = .ok (.invokevirtual 98, 3) ∧ 15 + 3 = 18 := ⟨by decide +kernel, rfl⟩
theorem dRE_nameSpot_18 : decode b_RE_nameSpot 18 = .ok (.l2i, 1) ∧ 18 + 1 = 19 := ⟨by decide +kernel, rfl⟩
theorem dRE_nameSpot_19 : decode b_RE_nameSpot 19 = .ok (.iadd, 1) ∧ 19 + 1 = 20 := ⟨by decide +kernel, rfl⟩
theorem dRE_nameSpot_20 : decode b_RE_nameSpot 20 = .ok (.ireturn, 1) ∧ 20 + 1 = 21 := ⟨by decide +kernel, rfl⟩
theorem dRE_nameLength_0 : decode b_RE_nameLength 0 = .ok (.aload_n 0, 1) ∧ 0 + 1 = 1 := ⟨by decide +kernel, rfl⟩
theorem dRE_nameLength_1 : decode b_RE_nameLength 1 = .ok (.getfield 9, 3) ∧ 1 + 3 = 4 := ⟨by decide +kernel, rfl⟩
theorem dRE_nameLength_4 : decode b_RE_nameLength 4 = .ok (.iload_n 1, 1) ∧ 4 + 1 = 5 := ⟨by decide +kernel, rfl⟩
theorem dRE_nameLength_5 : decode b_RE_nameLength 5 = .ok (.invokevirtual 98, 3) ∧ 5 + 3 = 8 := ⟨by decide +kernel, rfl⟩
theorem dRE_nameLength_8 : decode b_RE_nameLength 8 = .ok (.aload_n 0, 1) ∧ 8 + 1 = 9 := ⟨by decide +kernel, rfl⟩
theorem dRE_nameLength_9 : decode b_RE_nameLength 9 = .ok (.getfield 19, 3) ∧ 9 + 3 = 12 := ⟨by decide +kernel, rfl⟩
theorem dRE_nameLength_12 : decode b_RE_nameLength 12 = .ok (.getfield 33, 3) ∧ 12 + 3 = 15 := ⟨by decide +kernel, rfl⟩
theorem dRE_nameLength_15 : decode b_RE_nameLength 15 = .ok (.bipush (9), 2) ∧ 15 + 2 = 17 := ⟨by decide +kernel, rfl⟩
theorem dRE_nameLength_17 : decode b_RE_nameLength 17 = .ok (.iaload, 1) ∧ 17 + 1 = 18 := ⟨by decide +kernel, rfl⟩
theorem dRE_nameLength_18 : decode b_RE_nameLength 18 = .ok (.i2l, 1) ∧ 18 + 1 = 19 := ⟨by decide +kernel, rfl⟩
theorem dRE_nameLength_19 : decode b_RE_nameLength 19 = .ok (.lcmp, 1) ∧ 19 + 1 = 20 := ⟨by decide +kernel, rfl⟩
theorem dRE_nameLength_20 : decode b_RE_nameLength 20 = .ok (.ifCond .lt (5), 3) ∧ 20 + 3 = 23 ∧ ((20 : Nat) : Int) + (5) = ((25 : Nat) : Int) := ⟨by decide +kernel, rfl, by decide⟩
theorem dRE_nameLength_23 : decode b_RE_nameLength 23 = .ok (.iconst (-1), 1) ∧ 23 + 1 = 24 := ⟨by decide +kernel, rfl⟩
theorem dRE_nameLength_24 : decode b_RE_nameLength 24 = .ok (.ireturn, 1) ∧ 24 + 1 = 25 := ⟨by decide +kernel, rfl⟩
theorem dRE_nameLength_25 : decode b_RE_nameLength 25 = .ok (.aload_n 0, 1) ∧ 25 + 1 = 26 := ⟨by decide +kernel, rfl⟩
theorem dRE_nameLength_26 : decode b_RE_nameLength 26 = .ok (.iload_n 1, 1) ∧ 26 + 1 = 27 := ⟨by decide +kernel, rfl⟩
theorem dRE_nameLength_27 : decode b_RE_nameLength 27 = .ok (.invokevirtual 112, 3) ∧ 27 + 3 = 30 := ⟨by decide +kernel, rfl⟩
theorem dRE_nameLength_30 : decode b_RE_nameLength 30 = .ok (.istore_n 2, 1) ∧ 30 + 1 = 31 := ⟨by decide +kernel, rfl⟩
theorem dRE_nameLength_31 : decode b_RE_nameLength 31 = .ok (.iconst 0, 1) ∧ 31 + 1 = 32 := ⟨by decide +kernel, rfl⟩
theorem dRE_nameLength_32 : decode b_RE_nameLength 32 = .ok (.istore_n 3, 1) ∧ 32 + 1 = 33 := ⟨by decide +kernel, rfl⟩
theorem dRE_nameLength_33 : decode b_RE_nameLength 33 = .ok (.iload_n 3, 1) ∧ 33 + 1 = 34 := ⟨by decide +kernel, rfl⟩
theorem dRE_nameLength_34 : decode b_RE_nameLength 34 = .ok (.bipush (16), 2) ∧ 34 + 2 = 36 := ⟨by decide +kernel, rfl⟩
theorem dRE_nameLength_36 : decode b_RE_nameLength 36 = .ok (.if_icmp .gt (46), 3) ∧ 36 + 3 = 39 ∧ ((36 : Nat) : Int) + (46) = ((82 : Nat) : Int) := ⟨by decide +kernel, rfl, by decide⟩
theorem dRE_nameLength_39 : decode b_RE_nameLength 39 = .ok (.aload_n 0, 1) ∧ 39 + 1 = 40 := ⟨by decide +kernel, rfl⟩
theorem dRE_nameLength_40 : decode b_RE_nameLength 40 = .ok (.getfield 9, 3) ∧ 40 + 3 = 43 := ⟨by decide +kernel, rfl⟩
theorem dRE_nameLength_43 : decode b_RE_nameLength 43 = .ok (.iload_n 2, 1) ∧ 43 + 1 = 44 := ⟨by decide +kernel, rfl⟩
theorem dRE_nameLength_44 : decode b_RE_nameLength 44 = .ok (.iload_n 3, 1) ∧ 44 + 1 = 45 := ⟨by decide +kernel, rfl⟩
theorem dRE_nameLength_45 : decode b_RE_nameLength 45 = .ok (.iadd, 1) ∧ 45 + 1 = 46 := ⟨by decide +kernel, rfl⟩
theorem dRE_nameLength_46 : decode b_RE_nameLength 46 = .ok (.invokevirtual 42, 3) ∧ 46 + 3 = 49 := ⟨by decide +kernel, rfl⟩
theorem dRE_nameLength_49 : decode b_RE_nameLength 49 = .ok (.istore 4, 2) ∧ 49 + 2 = 51 := ⟨by decide +kernel, rfl⟩
theorem dRE_nameLength_51 : decode b_RE_nameLength 51 = .ok (.iload 4, 2) ∧ 51 + 2 = 53 := ⟨by decide +kernel, rfl⟩
theorem dRE_nameLength_53 : decode b_RE_nameLength 53 = .ok (.ifCond .ne (13), 3) ∧ 53 + 3 = 56 ∧ ((53 : Nat) : Int) + (13) = ((66 : Nat) : Int) := ⟨by decide +kernel, rfl, by decide⟩
theorem dRE_nameLength_56 : decode b_RE_nameLength 56 = .ok (.iload_n 3, 1) ∧ 56 + 1 = 57 := ⟨by decide +kernel, rfl⟩
theorem dRE_nameLength_57 : decode b_RE_nameLength 57 = .ok (.ifCond .ne (7), 3) ∧ 57 + 3 = 60 ∧ ((57 : Nat) : Int) + (7) = ((64 : Nat) : Int) := ⟨by decide +kernel, rfl, by decide⟩
theorem dRE_nameLength_60 : decode b_RE_nameLength 60 = .ok (.iconst (-1), 1) ∧ 60 + 1 = 61 := ⟨by decide +kernel, rfl⟩
theorem dRE_nameLength_61 : decode b_RE_nameLength 61 = .ok (.goto (4), 3) ∧ 61 + 3 = 64 ∧ ((61 : Nat) : Int) + (4) = ((65 : Nat) : Int) := ⟨by decide +kernel, rfl, by decide⟩
theorem dRE_nameLength_64 : decode b_RE_nameLength 64 = .ok (.iload_n 3, 1) ∧ 64 + 1 = 65 := ⟨by decide +kernel, rfl⟩
theorem dRE_nameLength_65 : decode b_RE_nameLength 65 = .ok (.ireturn, 1) ∧ 65 + 1 = 66 := ⟨by decide +kernel, rfl⟩
theorem dRE_nameLength_66 : decode b_RE_nameLength 66 = .ok (.iload 4, 2) ∧ 66 + 2 = 68 := ⟨by decide +kernel, rfl⟩
theorem dRE_nameLength_68 : decode b_RE_nameLength 68 = .ok (.invokestatic 115, 3) ∧ 68 + 3 = 71 := ⟨by decide +kernel, rfl⟩
theorem dRE_nameLength_71 : decode b_RE_nameLength 71 = .ok (.ifCond .ne (5), 3) ∧ 71 + 3 = 74 ∧ ((71 : Nat) : Int) + (5) = ((76 : Nat) : Int) := ⟨by decide +kernel, rfl, by decide⟩
theorem dRE_nameLength_74 : decode b_RE_nameLength 74 = .ok (.iconst (-1), 1) ∧ 74 + 1 = 75 := ⟨by decide +kernel, rfl⟩
theorem dRE_nameLength_75 : decode b_RE_nameLength 75 = .ok (.ireturn, 1) ∧ 75 + 1 = 76 := ⟨by decide +kernel, rfl⟩
theorem dRE_nameLength_76 : decode b_RE_nameLength 76 = .ok (.iinc 3 (1), 3) ∧ 76 + 3 = 79 := ⟨by decide +kernel, rfl⟩
theorem dRE_nameLength_79 : decode b_RE_nameLength 79 = .ok (.goto (-46), 3) ∧ 79 + 3 = 82 ∧ ((79 : Nat) : Int) + (-46) = ((33 : Nat) : Int) := ⟨by decide +kernel, rfl, by decide⟩
theorem dRE_nameLength_82 : decode b_RE_nameLength 82 = .ok (.iconst (-1), 1) ∧ 82 + 1 = 83 := ⟨by decide +kernel, rfl⟩
theorem dRE_nameLength_83 : decode b_RE_nameLength 83 = .ok (.ireturn, 1) ∧ 83 + 1 = 84 := ⟨by decide +kernel, rfl⟩
