theorem dMO_allFaults_0 : decode b_MO_allFaults 0 = .ok (.aload_n 0, 1) ∧ 0 + 1 = 1 := ⟨by decide +kernel, rfl⟩
theorem dMO_allFaults_1 : decode b_MO_allFaults 1 = .ok (.invokevirtual 339, 3) ∧ 1 + 3 = 4 := ⟨by decide +kernel, rfl⟩
theorem dMO_allFaults_4 : decode b_MO_allFaults 4 = .ok (.istore_n 1, 1) ∧ 4 + 1 = 5 := ⟨by decide +kernel, rfl⟩
theorem dMO_allFaults_5 : decode b_MO_allFaults 5 = .ok (.iload_n 1, 1) ∧ 5 + 1 = 6 := ⟨by decide +kernel, rfl⟩
theorem dMO_allFaults_6 : decode b_MO_allFaults 6 = .ok (.ifCond .eq (5), 3) ∧ 6 + 3 = 9 ∧ ((6 : Nat) : Int) + (5) = ((11 : Nat) : Int) := ⟨by decide +kernel, rfl, by decide⟩
theorem dMO_allFaults_9 : decode b_MO_allFaults 9 = .ok (.iload_n 1, 1) ∧ 9 + 1 = 10 := ⟨by decide +kernel, rfl⟩
theorem dMO_allFaults_10 : decode b_MO_allFaults 10 = .ok (.ireturn, 1) ∧ 10 + 1 = 11 := ⟨by decide +kernel, rfl⟩
theorem dMO_allFaults_11 : decode b_MO_allFaults 11 = .ok (.iconst 0, 1) ∧ 11 + 1 = 12 := ⟨by decide +kernel, rfl⟩
theorem dMO_allFaults_12 : decode b_MO_allFaults 12 = .ok (.istore_n 2, 1) ∧ 12 + 1 = 13 := ⟨by decide +kernel, rfl⟩
theorem dMO_allFaults_13 : decode b_MO_allFaults 13 = .ok (.iload_n 2, 1) ∧ 13 + 1 = 14 := ⟨by decide +kernel, rfl⟩
theorem dMO_allFaults_14 : decode b_MO_allFaults 14 = .ok (.aload_n 0, 1) ∧ 14 + 1 = 15 := ⟨by decide +kernel, rfl⟩
theorem dMO_allFaults_15 : decode b_MO_allFaults 15 = .ok (.getfield 195, 3) ∧ 15 + 3 = 18 := ⟨by decide +kernel, rfl⟩
theorem dMO_allFaults_18 : decode b_MO_allFaults 18 = .ok (.if_icmp .ge (19), 3) ∧ 18 + 3 = 21 ∧ ((18 : Nat) : Int) + (19) = ((37 : Nat) : Int) := ⟨by decide +kernel, rfl, by decide⟩
theorem dMO_allFaults_21 : decode b_MO_allFaults 21 = .ok (.iload_n 1, 1) ∧ 21 + 1 = 22 := ⟨by decide +kernel, rfl⟩
theorem dMO_allFaults_22 : decode b_MO_allFaults 22 = .ok (.ifCond .ne (15), 3) ∧ 22 + 3 = 25 ∧ ((22 : Nat) : Int) + (15) = ((37 : Nat) : Int) := ⟨by decide +kernel, rfl, by decide⟩
theorem dMO_allFaults_25 : decode b_MO_allFaults 25 = .ok (.aload_n 0, 1) ∧ 25 + 1 = 26 := ⟨by decide +kernel, rfl⟩
theorem dMO_allFaults_26 : decode b_MO_allFaults 26 = .ok (.iload_n 2, 1) ∧ 26 + 1 = 27 := ⟨by decide +kernel, rfl⟩
theorem dMO_allFaults_27 : decode b_MO_allFaults 27 = .ok (.invokevirtual 342, 3) ∧ 27 + 3 = 30 := ⟨by decide +kernel, rfl⟩
theorem dMO_allFaults_30 : decode b_MO_allFaults 30 = .ok (.istore_n 1, 1) ∧ 30 + 1 = 31 := ⟨by decide +kernel, rfl⟩
theorem dMO_allFaults_31 : decode b_MO_allFaults 31 = .ok (.iinc 2 (1), 3) ∧ 31 + 3 = 34 := ⟨by decide +kernel, rfl⟩
theorem dMO_allFaults_34 : decode b_MO_allFaults 34 = .ok (.goto (-21), 3) ∧ 34 + 3 = 37 ∧ ((34 : Nat) : Int) + (-21) = ((13 : Nat) : Int) := ⟨by decide +kernel, rfl, by decide⟩
theorem dMO_allFaults_37 : decode b_MO_allFaults 37 = .ok (.iload_n 1, 1) ∧ 37 + 1 = 38 := ⟨by decide +kernel, rfl⟩
theorem dMO_allFaults_38 : decode b_MO_allFaults 38 = .ok (.ifCond .eq (7), 3) ∧ 38 + 3 = 41 ∧ ((38 : Nat) : Int) + (7) = ((45 : Nat) : Int) := ⟨by decide +kernel, rfl, by decide⟩
theorem dMO_allFaults_41 : decode b_MO_allFaults 41 = .ok (.iload_n 1, 1) ∧ 41 + 1 = 42 := ⟨by decide +kernel, rfl⟩
theorem dMO_allFaults_42 : decode b_MO_allFaults 42 = .ok (.goto (7), 3) ∧ 42 + 3 = 45 ∧ ((42 : Nat) : Int) + (7) = ((49 : Nat) : Int) := ⟨by decide +kernel, rfl, by decide⟩
theorem dMO_allFaults_45 : decode b_MO_allFaults 45 = .ok (.aload_n 0, 1) ∧ 45 + 1 = 46 := ⟨by decide +kernel, rfl⟩
theorem dMO_allFaults_46 : decode b_MO_allFaults 46 = .ok (.invokevirtual 345, 3) ∧ 46 + 3 = 49 := ⟨by decide +kernel, rfl⟩
theorem dMO_allFaults_49 : decode b_MO_allFaults 49 = .ok (.istore_n 1, 1) ∧ 49 + 1 = 50 := ⟨by decide +kernel, rfl⟩
theorem dMO_allFaults_50 : decode b_MO_allFaults 50 = .ok (.iconst 1, 1) ∧ 50 + 1 = 51 := ⟨by decide +kernel, rfl⟩
theorem dMO_allFaults_51 : decode b_MO_allFaults 51 = .ok (.istore_n 2, 1) ∧ 51 + 1 = 52 := ⟨by decide +kernel, rfl⟩
theorem dMO_allFaults_52 : decode b_MO_allFaults 52 = .ok (.iload_n 2, 1) ∧ 52 + 1 = 53 := ⟨by decide +kernel, rfl⟩
theorem dMO_allFaults_53 : decode b_MO_allFaults 53 = .ok (.aload_n 0, 1) ∧ 53 + 1 = 54 := ⟨by decide +kernel, rfl⟩
theorem dMO_allFaults_54 : decode b_MO_allFaults 54 = .ok (.getfield 195, 3) ∧ 54 + 3 = 57 := ⟨by decide +kernel, rfl⟩
theorem dMO_allFaults_57 : decode b_MO_allFaults 57 = .ok (.if_icmp .ge (19), 3) ∧ 57 + 3 = 60 ∧ ((57 : Nat) : Int) + (19) = ((76 : Nat) : Int) := ⟨by decide +kernel, rfl, by decide⟩
theorem dMO_allFaults_60 : decode b_MO_allFaults 60 = .ok (.iload_n 1, 1) ∧ 60 + 1 = 61 := ⟨by decide +kernel, rfl⟩
theorem dMO_allFaults_61 : decode b_MO_allFaults 61 = .ok (.ifCond .ne (15), 3) ∧ 61 + 3 = 64 ∧ ((61 : Nat) : Int) + (15) = ((76 : Nat) : Int) := ⟨by decide +kernel, rfl, by decide⟩
theorem dMO_allFaults_64 : decode b_MO_allFaults 64 = .ok (.aload_n 0, 1) ∧ 64 + 1 = 65 := ⟨by decide +kernel, rfl⟩
theorem dMO_allFaults_65 : decode b_MO_allFaults 65 = .ok (.iload_n 2, 1) ∧ 65 + 1 = 66 := ⟨by decide +kernel, rfl⟩
theorem dMO_allFaults_66 : decode b_MO_allFaults 66 = .ok (.invokevirtual 348, 3) ∧ 66 + 3 = 69 := ⟨by decide +kernel, rfl⟩
theorem dMO_allFaults_69 : decode b_MO_allFaults 69 = .ok (.istore_n 1, 1) ∧ 69 + 1 = 70 := ⟨by decide +kernel, rfl⟩
theorem dMO_allFaults_70 : decode b_MO_allFaults 70 = .ok (.iinc 2 (1), 3) ∧ 70 + 3 = 73 := ⟨by decide +kernel, rfl⟩
theorem dMO_allFaults_73 : decode b_MO_allFaults 73 = .ok (.goto (-21), 3) ∧ 73 + 3 = 76 ∧ ((73 : Nat) : Int) + (-21) = ((52 : Nat) : Int) := ⟨by decide +kernel, rfl, by decide⟩
theorem dMO_allFaults_76 : decode b_MO_allFaults 76 = .ok (.iload_n 1, 1) ∧ 76 + 1 = 77 := ⟨by decide +kernel, rfl⟩
theorem dMO_allFaults_77 : decode b_MO_allFaults 77 = .ok (.ifCond .eq (7), 3) ∧ 77 + 3 = 80 ∧ ((77 : Nat) : Int) + (7) = ((84 : Nat) : Int) := ⟨by decide +kernel, rfl, by decide⟩
theorem dMO_allFaults_80 : decode b_MO_allFaults 80 = .ok (.iload_n 1, 1) ∧ 80 + 1 = 81 := ⟨by decide +kernel, rfl⟩
theorem dMO_allFaults_81 : decode b_MO_allFaults 81 = .ok (.goto (7), 3) ∧ 81 + 3 = 84 ∧ ((81 : Nat) : Int) + (7) = ((88 : Nat) : Int) := ⟨by decide +kernel, rfl, by decide⟩
theorem dMO_allFaults_84 : decode b_MO_allFaults 84 = .ok (.aload_n 0, 1) ∧ 84 + 1 = 85 := ⟨by decide +kernel, rfl⟩
theorem dMO_allFaults_85 : decode b_MO_allFaults 85 = .ok (.invokevirtual 351, 3) ∧ 85 + 3 = 88 := ⟨by decide +kernel, rfl⟩
theorem dMO_allFaults_88 : decode b_MO_allFaults 88 = .ok (.istore_n 1, 1) ∧ 88 + 1 = 89 := ⟨by decide +kernel, rfl⟩
theorem dMO_allFaults_89 : decode b_MO_allFaults 89 = .ok (.iload_n 1, 1) ∧ 89 + 1 = 90 := ⟨by decide +kernel, rfl⟩
theorem dMO_allFaults_90 : decode b_MO_allFaults 90 = .ok (.ifCond .eq (5), 3) ∧ 90 + 3 = 93 ∧ ((90 : Nat) : Int) + (5) = ((95 : Nat) : Int) := ⟨by decide +kernel, rfl, by decide⟩
theorem dMO_allFaults_93 : decode b_MO_allFaults 93 = .ok (.iload_n 1, 1) ∧ 93 + 1 = 94 := ⟨by decide +kernel, rfl⟩
theorem dMO_allFaults_94 : decode b_MO_allFaults 94 = .ok (.ireturn, 1) ∧ 94 + 1 = 95 := ⟨by decide +kernel, rfl⟩
theorem dMO_allFaults_95 : decode b_MO_allFaults 95 = .ok (.iconst 0, 1) ∧ 95 + 1 = 96 := ⟨by decide +kernel, rfl⟩
theorem dMO_allFaults_96 : decode b_MO_allFaults 96 = .ok (.istore_n 2, 1) ∧ 96 + 1 = 97 := ⟨by decide +kernel, rfl⟩
theorem dMO_allFaults_97 : decode b_MO_allFaults 97 = .ok (.iload_n 2, 1) ∧ 97 + 1 = 98 := ⟨by decide +kernel, rfl⟩
theorem dMO_allFaults_98 : decode b_MO_allFaults 98 = .ok (.aload_n 0, 1) ∧ 98 + 1 = 99 := ⟨by decide +kernel, rfl⟩
theorem dMO_allFaults_99 : decode b_MO_allFaults 99 = .ok (.invokevirtual 334, 3) ∧ 99 + 3 = 102 := ⟨by decide +kernel, rfl⟩
theorem dMO_allFaults_102 : decode b_MO_allFaults 102 = .ok (.if_icmp .ge (19), 3) ∧ 102 + 3 = 105 ∧ ((102 : Nat) : Int) + (19) = ((121 : Nat) : Int) := ⟨by decide +kernel, rfl, by decide⟩
theorem dMO_allFaults_105 : decode b_MO_allFaults 105 = .ok (.iload_n 1, 1) ∧ 105 + 1 = 106 := ⟨by decide +kernel, rfl⟩
theorem dMO_allFaults_106 : decode b_MO_allFaults 106 = .ok (.ifCond .ne (15), 3) ∧ 106 + 3 = 109 ∧ ((106 : Nat) : Int) + (15) = ((121 : Nat) : Int) := ⟨by decide +kernel, rfl, by decide⟩
theorem dMO_allFaults_109 : decode b_MO_allFaults 109 = .ok (.aload_n 0, 1) ∧ 109 + 1 = 110 := ⟨by decide +kernel, rfl⟩
theorem dMO_allFaults_110 : decode b_MO_allFaults 110 = .ok (.iload_n 2, 1) ∧ 110 + 1 = 111 := ⟨by decide +kernel, rfl⟩
theorem dMO_allFaults_111 : decode b_MO_allFaults 111 = .ok (.invokevirtual 354, 3) ∧ 111 + 3 = 114 := ⟨by decide +kernel, rfl⟩
theorem dMO_allFaults_114 : decode b_MO_allFaults 114 = .ok (.istore_n 1, 1) ∧ 114 + 1 = 115 := ⟨by decide +kernel, rfl⟩
theorem dMO_allFaults_115 : decode b_MO_allFaults 115 = .ok (.iinc 2 (1), 3) ∧ 115 + 3 = 118 := ⟨by decide +kernel, rfl⟩
theorem dMO_allFaults_118 : decode b_MO_allFaults 118 = .ok (.goto (-21), 3) ∧ 118 + 3 = 121 ∧ ((118 : Nat) : Int) + (-21) = ((97 : Nat) : Int) := ⟨by decide +kernel, rfl, by decide⟩
theorem dMO_allFaults_121 : decode b_MO_allFaults 121 = .ok (.iload_n 1, 1) ∧ 121 + 1 = 122 := ⟨by decide +kernel, rfl⟩
theorem dMO_allFaults_122 : decode b_MO_allFaults 122 = .ok (.ifCond .eq (7), 3) ∧ 122 + 3 = 125 ∧ ((122 : Nat) : Int) + (7) = ((129 : Nat) : Int) := ⟨by decide +kernel, rfl, by decide⟩
theorem dMO_allFaults_125 : decode b_MO_allFaults 125 = .ok (.iload_n 1, 1) ∧ 125 + 1 = 126 := ⟨by decide +kernel, rfl⟩
theorem dMO_allFaults_126 : decode b_MO_allFaults 126 = .ok (.goto (7), 3) ∧ 126 + 3 = 129 ∧ ((126 : Nat) : Int) + (7) = ((133 : Nat) : Int) := ⟨by decide +kernel, rfl, by decide⟩
theorem dMO_allFaults_129 : decode b_MO_allFaults 129 = .ok (.aload_n 0, 1) ∧ 129 + 1 = 130 := ⟨by decide +kernel, rfl⟩
theorem dMO_allFaults_130 : decode b_MO_allFaults 130 = .ok (.invokevirtual 357, 3) ∧ 130 + 3 = 133 := ⟨by decide +kernel, rfl⟩
theorem dMO_allFaults_133 : decode b_MO_allFaults 133 = .ok (.istore_n 1, 1) ∧ 133 + 1 = 134 := ⟨by decide +kernel, rfl⟩
theorem dMO_allFaults_134 : decode b_MO_allFaults 134 = .ok (.iconst 0, 1) ∧ 134 + 1 = 135 := ⟨by decide +kernel, rfl⟩
theorem dMO_allFaults_135 : decode b_MO_allFaults 135 = .ok (.istore_n 2, 1) ∧ 135 + 1 = 136 := ⟨by decide +kernel, rfl⟩
theorem dMO_allFaults_136 : decode b_MO_allFaults 136 = .ok (.iload_n 2, 1) ∧ 136 + 1 = 137 := ⟨by decide +kernel, rfl⟩
theorem dMO_allFaults_137 : decode b_MO_allFaults 137 = .ok (.iconst 3, 1) ∧ 137 + 1 = 138 := ⟨by decide +kernel, rfl⟩
theorem dMO_allFaults_138 : decode b_MO_allFaults 138 = .ok (.if_icmp .ge (64), 3) ∧ 138 + 3 = 141 ∧ ((138 : Nat) : Int) + (64) = ((202 : Nat) : Int) := ⟨by decide +kernel, rfl, by decide⟩
theorem dMO_allFaults_141 : decode b_MO_allFaults 141 = .ok (.iload_n 1, 1) ∧ 141 + 1 = 142 := ⟨by decide +kernel, rfl⟩
theorem dMO_allFaults_142 : decode b_MO_allFaults 142 = .ok (.ifCond .ne (60), 3) ∧ 142 + 3 = 145 ∧ ((142 : Nat) : Int) + (60) = ((202 : Nat) : Int) := ⟨by decide +kernel, rfl, by decide⟩
theorem dMO_allFaults_145 : decode b_MO_allFaults 145 = .ok (.aload_n 0, 1) ∧ 145 + 1 = 146 := ⟨by decide +kernel, rfl⟩
theorem dMO_allFaults_146 : decode b_MO_allFaults 146 = .ok (.iconst 5, 1) ∧ 146 + 1 = 147 := ⟨by decide +kernel, rfl⟩
theorem dMO_allFaults_147 : decode b_MO_allFaults 147 = .ok (.iload_n 2, 1) ∧ 147 + 1 = 148 := ⟨by decide +kernel, rfl⟩
theorem dMO_allFaults_148 : decode b_MO_allFaults 148 = .ok (.iadd, 1) ∧ 148 + 1 = 149 := ⟨by decide +kernel, rfl⟩
theorem dMO_allFaults_149 : decode b_MO_allFaults 149 = .ok (.invokevirtual 302, 3) ∧ 149 + 3 = 152 := ⟨by decide +kernel, rfl⟩
theorem dMO_allFaults_152 : decode b_MO_allFaults 152 = .ok (.ldc2_w 290, 3) ∧ 152 + 3 = 155 := ⟨by decide +kernel, rfl⟩
theorem dMO_allFaults_155 : decode b_MO_allFaults 155 = .ok (.ldiv, 1) ∧ 155 + 1 = 156 := ⟨by decide +kernel, rfl⟩
theorem dMO_allFaults_156 : decode b_MO_allFaults 156 = .ok (.l2i, 1) ∧ 156 + 1 = 157 := ⟨by decide +kernel, rfl⟩
theorem dMO_allFaults_157 : decode b_MO_allFaults 157 = .ok (.istore_n 3, 1) ∧ 157 + 1 = 158 := ⟨by decide +kernel, rfl⟩
theorem dMO_allFaults_158 : decode b_MO_allFaults 158 = .ok (.iconst 0, 1) ∧ 158 + 1 = 159 := ⟨by decide +kernel, rfl⟩
theorem dMO_allFaults_159 : decode b_MO_allFaults 159 = .ok (.istore 4, 2) ∧ 159 + 2 = 161 := ⟨by decide +kernel, rfl⟩
theorem dMO_allFaults_161 : decode b_MO_allFaults 161 = .ok (.iload 4, 2) ∧ 161 + 2 = 163 := ⟨by decide +kernel, rfl⟩
theorem dMO_allFaults_163 : decode b_MO_allFaults 163 = .ok (.iload_n 3, 1) ∧ 163 + 1 = 164 := ⟨by decide +kernel, rfl⟩
theorem dMO_allFaults_164 : decode b_MO_allFaults 164 = .ok (.if_icmp .ge (32), 3) ∧ 164 + 3 = 167 ∧ ((164 : Nat) : Int) + (32) = ((196 : Nat) : Int) := ⟨by decide +kernel, rfl, by decide⟩
theorem dMO_allFaults_167 : decode b_MO_allFaults 167 = .ok (.iload_n 1, 1) ∧ 167 + 1 = 168 := ⟨by decide +kernel, rfl⟩
theorem dMO_allFaults_168 : decode b_MO_allFaults 168 = .ok (.ifCond .ne (28), 3) ∧ 168 + 3 = 171 ∧ ((168 : Nat) : Int) + (28) = ((196 : Nat) : Int) := ⟨by decide +kernel, rfl, by decide⟩
theorem dMO_allFaults_171 : decode b_MO_allFaults 171 = .ok (.aload_n 0, 1) ∧ 171 + 1 = 172 := ⟨by decide +kernel, rfl⟩
theorem dMO_allFaults_172 : decode b_MO_allFaults 172 = .ok (.iload_n 2, 1) ∧ 172 + 1 = 173 := ⟨by decide +kernel, rfl⟩
theorem dMO_allFaults_173 : decode b_MO_allFaults 173 = .ok (.aload_n 0, 1) ∧ 173 + 1 = 174 := ⟨by decide +kernel, rfl⟩
theorem dMO_allFaults_174 : decode b_MO_allFaults 174 = .ok (.iconst 5, 1) ∧ 174 + 1 = 175 := ⟨by decide +kernel, rfl⟩
theorem dMO_allFaults_175 : decode b_MO_allFaults 175 = .ok (.iload_n 2, 1) ∧ 175 + 1 = 176 := ⟨by decide +kernel, rfl⟩
theorem dMO_allFaults_176 : decode b_MO_allFaults 176 = .ok (.iadd, 1) ∧ 176 + 1 = 177 := ⟨by decide +kernel, rfl⟩
theorem dMO_allFaults_177 : decode b_MO_allFaults 177 = .ok (.invokevirtual 305, 3) ∧ 177 + 3 = 180 := ⟨by decide +kernel, rfl⟩
theorem dMO_allFaults_180 : decode b_MO_allFaults 180 = .ok (.bipush (12), 2) ∧ 180 + 2 = 182 := ⟨by decide +kernel, rfl⟩
theorem dMO_allFaults_182 : decode b_MO_allFaults 182 = .ok (.iload 4, 2) ∧ 182 + 2 = 184 := ⟨by decide +kernel, rfl⟩
theorem dMO_allFaults_184 : decode b_MO_allFaults 184 = .ok (.imul, 1) ∧ 184 + 1 = 185 := ⟨by decide +kernel, rfl⟩
theorem dMO_allFaults_185 : decode b_MO_allFaults 185 = .ok (.iadd, 1) ∧ 185 + 1 = 186 := ⟨by decide +kernel, rfl⟩
theorem dMO_allFaults_186 : decode b_MO_allFaults 186 = .ok (.invokevirtual 360, 3) ∧ 186 + 3 = 189 := ⟨by decide +kernel, rfl⟩
theorem dMO_allFaults_189 : decode b_MO_allFaults 189 = .ok (.istore_n 1, 1) ∧ 189 + 1 = 190 := ⟨by decide +kernel, rfl⟩
theorem dMO_allFaults_190 : decode b_MO_allFaults 190 = .ok (.iinc 4 (1), 3) ∧ 190 + 3 = 193 := ⟨by decide +kernel, rfl⟩
theorem dMO_allFaults_193 : decode b_MO_allFaults 193 = .ok (.goto (-32), 3) ∧ 193 + 3 = 196 ∧ ((193 : Nat) : Int) + (-32) = ((161 : Nat) : Int) := ⟨by decide +kernel, rfl, by decide⟩
theorem dMO_allFaults_196 : decode b_MO_allFaults 196 = .ok (.iinc 2 (1), 3) ∧ 196 + 3 = 199 := ⟨by decide +kernel, rfl⟩
theorem dMO_allFaults_199 : decode b_MO_allFaults 199 = .ok (.goto (-63), 3) ∧ 199 + 3 = 202 ∧ ((199 : Nat) : Int) + (-63) = ((136 : Nat) : Int) := ⟨by decide +kernel, rfl, by decide⟩
theorem dMO_allFaults_202 : decode b_MO_allFaults 202 = .ok (.iload_n 1, 1) ∧ 202 + 1 = 203 := ⟨by decide +kernel, rfl⟩
theorem dMO_allFaults_203 : decode b_MO_allFaults 203 = .ok (.ifCond .eq (7), 3) ∧ 203 + 3 = 206 ∧ ((203 : Nat) : Int) + (7) = ((210 : Nat) : Int) := ⟨by decide +kernel, rfl, by decide⟩
theorem dMO_allFaults_206 : decode b_MO_allFaults 206 = .ok (.iload_n 1, 1) ∧ 206 + 1 = 207 := ⟨by decide +kernel, rfl⟩
theorem dMO_allFaults_207 : decode b_MO_allFaults 207 = .ok (.goto (7), 3) ∧ 207 + 3 = 210 ∧ ((207 : Nat) : Int) + (7) = ((214 : Nat) : Int) := ⟨by decide +kernel, rfl, by decide⟩
theorem dMO_allFaults_210 : decode b_MO_allFaults 210 = .ok (.aload_n 0, 1) ∧ 210 + 1 = 211 := ⟨by decide +kernel, rfl⟩
theorem dMO_allFaults_211 : decode b_MO_allFaults 211 = .ok (.invokevirtual 363, 3) ∧ 211 + 3 = 214 := ⟨by decide +kernel, rfl⟩
theorem dMO_allFaults_214 : decode b_MO_allFaults 214 = .ok (.ireturn, 1) ∧ 214 + 1 = 215 := ⟨by decide +kernel, rfl⟩
theorem dMO_takeRelocation_0 : decode b_MO_takeRelocation 0 = .ok (.sipush (300), 3) ∧ 0 + 3 = 3 := ⟨by decide +kernel, rfl⟩
theorem dMO_takeRelocation_3 : decode b_MO_takeRelocation 3 = .ok (.aload_n 0, 1) ∧ 3 + 1 = 4 := ⟨by decide +kernel, rfl⟩
theorem dMO_takeRelocation_4 : decode b_MO_takeRelocation 4 = .ok (.getfield 64, 3) ∧ 4 + 3 = 7 := ⟨by decide +kernel, rfl⟩
theorem dMO_takeRelocation_7 : decode b_MO_takeRelocation 7 = .ok (.iconst 1, 1) ∧ 7 + 1 = 8 := ⟨by decide +kernel, rfl⟩
theorem dMO_takeRelocation_8 : decode b_MO_takeRelocation 8 = .ok (.iaload, 1) ∧ 8 + 1 = 9 := ⟨by decide +kernel, rfl⟩
theorem dMO_takeRelocation_9 : decode b_MO_takeRelocation 9 = .ok (.iadd, 1) ∧ 9 + 1 = 10 := ⟨by decide +kernel, rfl⟩
theorem dMO_takeRelocation_10 : decode b_MO_takeRelocation 10 = .ok (.istore_n 3, 1) ∧ 10 + 1 = 11 := ⟨by decide +kernel, rfl⟩
theorem dMO_takeRelocation_11 : decode b_MO_takeRelocation 11 = .ok (.aload_n 0, 1) ∧ 11 + 1 = 12 := ⟨by decide +kernel, rfl⟩
theorem dMO_takeRelocation_12 : decode b_MO_takeRelocation 12 = .ok (.getfield 49, 3) ∧ 12 + 3 = 15 := ⟨by decide +kernel, rfl⟩
theorem dMO_takeRelocation_15 : decode b_MO_takeRelocation 15 = .ok (.iload_n 3, 1) ∧ 15 + 1 = 16 := ⟨by decide +kernel, rfl⟩
theorem dMO_takeRelocation_16 : decode b_MO_takeRelocation 16 = .ok (.iload_n 1, 1) ∧ 16 + 1 = 17 := ⟨by decide +kernel, rfl⟩
theorem dMO_takeRelocation_17 : decode b_MO_takeRelocation 17 = .ok (.iastore, 1) ∧ 17 + 1 = 18 := ⟨by decide +kernel, rfl⟩
theorem dMO_takeRelocation_18 : decode b_MO_takeRelocation 18 = .ok (.aload_n 0, 1) ∧ 18 + 1 = 19 := ⟨by decide +kernel, rfl⟩
theorem dMO_takeRelocation_19 : decode b_MO_takeRelocation 19 = .ok (.getfield 52, 3) ∧ 19 + 3 = 22 := ⟨by decide +kernel, rfl⟩
theorem dMO_takeRelocation_22 : decode b_MO_takeRelocation 22 = .ok (.iload_n 3, 1) ∧ 22 + 1 = 23 := ⟨by decide +kernel, rfl⟩
theorem dMO_takeRelocation_23 : decode b_MO_takeRelocation 23 = .ok (.aload_n 0, 1) ∧ 23 + 1 = 24 := ⟨by decide +kernel, rfl⟩
theorem dMO_takeRelocation_24 : decode b_MO_takeRelocation 24 = .ok (.iload_n 2, 1) ∧ 24 + 1 = 25 := ⟨by decide +kernel, rfl⟩
theorem dMO_takeRelocation_25 : decode b_MO_takeRelocation 25 = .ok (.invokevirtual 260, 3) ∧ 25 + 3 = 28 := ⟨by decide +kernel, rfl⟩
theorem dMO_takeRelocation_28 : decode b_MO_takeRelocation 28 = .ok (.l2i, 1) ∧ 28 + 1 = 29 := ⟨by decide +kernel, rfl⟩
theorem dMO_takeRelocation_29 : decode b_MO_takeRelocation 29 = .ok (.iastore, 1) ∧ 29 + 1 = 30 := ⟨by decide +kernel, rfl⟩
theorem dMO_takeRelocation_30 : decode b_MO_takeRelocation 30 = .ok (.aload_n 0, 1) ∧ 30 + 1 = 31 := ⟨by decide +kernel, rfl⟩
theorem dMO_takeRelocation_31 : decode b_MO_takeRelocation 31 = .ok (.getfield 55, 3) ∧ 31 + 3 = 34 := ⟨by decide +kernel, rfl⟩
theorem dMO_takeRelocation_34 : decode b_MO_takeRelocation 34 = .ok (.iload_n 3, 1) ∧ 34 + 1 = 35 := ⟨by decide +kernel, rfl⟩
theorem dMO_takeRelocation_35 : decode b_MO_takeRelocation 35 = .ok (.aload_n 0, 1) ∧ 35 + 1 = 36 := ⟨by decide +kernel, rfl⟩
theorem dMO_takeRelocation_36 : decode b_MO_takeRelocation 36 = .ok (.getfield 70, 3) ∧ 36 + 3 = 39 := ⟨by decide +kernel, rfl⟩
theorem dMO_takeRelocation_39 : decode b_MO_takeRelocation 39 = .ok (.iload_n 2, 1) ∧ 39 + 1 = 40 := ⟨by decide +kernel, rfl⟩
theorem dMO_takeRelocation_40 : decode b_MO_takeRelocation 40 = .ok (.iconst 4, 1) ∧ 40 + 1 = 41 := ⟨by decide +kernel, rfl⟩
theorem dMO_takeRelocation_41 : decode b_MO_takeRelocation 41 = .ok (.iadd, 1) ∧ 41 + 1 = 42 := ⟨by decide +kernel, rfl⟩
theorem dMO_takeRelocation_42 : decode b_MO_takeRelocation 42 = .ok (.iaload, 1) ∧ 42 + 1 = 43 := ⟨by decide +kernel, rfl⟩
theorem dMO_takeRelocation_43 : decode b_MO_takeRelocation 43 = .ok (.iastore, 1) ∧ 43 + 1 = 44 := ⟨by decide +kernel, rfl⟩
theorem dMO_takeRelocation_44 : decode b_MO_takeRelocation 44 = .ok (.aload_n 0, 1) ∧ 44 + 1 = 45 := ⟨by decide +kernel, rfl⟩
theorem dMO_takeRelocation_45 : decode b_MO_takeRelocation 45 = .ok (.getfield 58, 3) ∧ 45 + 3 = 48 := ⟨by decide +kernel, rfl⟩
theorem dMO_takeRelocation_48 : decode b_MO_takeRelocation 48 = .ok (.iload_n 3, 1) ∧ 48 + 1 = 49 := ⟨by decide +kernel, rfl⟩
theorem dMO_takeRelocation_49 : decode b_MO_takeRelocation 49 = .ok (.aload_n 0, 1) ∧ 49 + 1 = 50 := ⟨by decide +kernel, rfl⟩
theorem dMO_takeRelocation_50 : decode b_MO_takeRelocation 50 = .ok (.iload_n 2, 1) ∧ 50 + 1 = 51 := ⟨by decide +kernel, rfl⟩
theorem dMO_takeRelocation_51 : decode b_MO_takeRelocation 51 = .ok (.iconst 4, 1) ∧ 51 + 1 = 52 := ⟨by decide +kernel, rfl⟩
theorem dMO_takeRelocation_52 : decode b_MO_takeRelocation 52 = .ok (.iadd, 1) ∧ 52 + 1 = 53 := ⟨by decide +kernel, rfl⟩
theorem dMO_takeRelocation_53 : decode b_MO_takeRelocation 53 = .ok (.invokevirtual 260, 3) ∧ 53 + 3 = 56 := ⟨by decide +kernel, rfl⟩
theorem dMO_takeRelocation_56 : decode b_MO_takeRelocation 56 = .ok (.ldc2_w 337, 3) ∧ 56 + 3 = 59 := ⟨by decide +kernel, rfl⟩
theorem dMO_takeRelocation_59 : decode b_MO_takeRelocation 59 = .ok (.ldiv, 1) ∧ 59 + 1 = 60 := ⟨by decide +kernel, rfl⟩
theorem dMO_takeRelocation_60 : decode b_MO_takeRelocation 60 = .ok (.l2i, 1) ∧ 60 + 1 = 61 := ⟨by decide +kernel, rfl⟩
theorem dMO_takeRelocation_61 : decode b_MO_takeRelocation 61 = .ok (.iconst 1, 1) ∧ 61 + 1 = 62 := ⟨by decide +kernel, rfl⟩
theorem dMO_takeRelocation_62 : decode b_MO_takeRelocation 62 = .ok (.isub, 1) ∧ 62 + 1 = 63 := ⟨by decide +kernel, rfl⟩
theorem dMO_takeRelocation_63 : decode b_MO_takeRelocation 63 = .ok (.iastore, 1) ∧ 63 + 1 = 64 := ⟨by decide +kernel, rfl⟩
theorem dMO_takeRelocation_64 : decode b_MO_takeRelocation 64 = .ok (.aload_n 0, 1) ∧ 64 + 1 = 65 := ⟨by decide +kernel, rfl⟩
theorem dMO_takeRelocation_65 : decode b_MO_takeRelocation 65 = .ok (.getfield 61, 3) ∧ 65 + 3 = 68 := ⟨by decide +kernel, rfl⟩
theorem dMO_takeRelocation_68 : decode b_MO_takeRelocation 68 = .ok (.iload_n 3, 1) ∧ 68 + 1 = 69 := ⟨by decide +kernel, rfl⟩
theorem dMO_takeRelocation_69 : decode b_MO_takeRelocation 69 = .ok (.aload_n 0, 1) ∧ 69 + 1 = 70 := ⟨by decide +kernel, rfl⟩
theorem dMO_takeRelocation_70 : decode b_MO_takeRelocation 70 = .ok (.iload_n 2, 1) ∧ 70 + 1 = 71 := ⟨by decide +kernel, rfl⟩
theorem dMO_takeRelocation_71 : decode b_MO_takeRelocation 71 = .ok (.bipush (8), 2) ∧ 71 + 2 = 73 := ⟨by decide +kernel, rfl⟩
theorem dMO_takeRelocation_73 : decode b_MO_takeRelocation 73 = .ok (.iadd, 1) ∧ 73 + 1 = 74 := ⟨by decide +kernel, rfl⟩
theorem dMO_takeRelocation_74 : decode b_MO_takeRelocation 74 = .ok (.invokevirtual 260, 3) ∧ 74 + 3 = 77 := ⟨by decide +kernel, rfl⟩
theorem dMO_takeRelocation_77 : decode b_MO_takeRelocation 77 = .ok (.l2i, 1) ∧ 77 + 1 = 78 := ⟨by decide +kernel, rfl⟩
theorem dMO_takeRelocation_78 : decode b_MO_takeRelocation 78 = .ok (.iastore, 1) ∧ 78 + 1 = 79 := ⟨by decide +kernel, rfl⟩
theorem dMO_takeRelocation_79 : decode b_MO_takeRelocation 79 = .ok (.aload_n 0, 1) ∧ 79 + 1 = 80 := ⟨by decide +kernel, rfl⟩
theorem dMO_takeRelocation_80 : decode b_MO_takeRelocation 80 = .ok (.getfield 64, 3) ∧ 80 + 3 = 83 := ⟨by decide +kernel, rfl⟩
theorem dMO_takeRelocation_83 : decode b_MO_takeRelocation 83 = .ok (.iconst 1, 1) ∧ 83 + 1 = 84 := ⟨by decide +kernel, rfl⟩
theorem dMO_takeRelocation_84 : decode b_MO_takeRelocation 84 = .ok (.dup2, 1) ∧ 84 + 1 = 85 := ⟨by decide +kernel, rfl⟩
theorem dMO_takeRelocation_85 : decode b_MO_takeRelocation 85 = .ok (.iaload, 1) ∧ 85 + 1 = 86 := ⟨by decide +kernel, rfl⟩
theorem dMO_takeRelocation_86 : decode b_MO_takeRelocation 86 = .ok (.iconst 1, 1) ∧ 86 + 1 = 87 := ⟨by decide +kernel, rfl⟩
theorem dMO_takeRelocation_87 : decode b_MO_takeRelocation 87 = .ok (.iadd, 1) ∧ 87 + 1 = 88 := ⟨by decide +kernel, rfl⟩
theorem dMO_takeRelocation_88 : decode b_MO_takeRelocation 88 = .ok (.iastore, 1) ∧ 88 + 1 = 89 := ⟨by decide +kernel, rfl⟩
theorem dMO_takeRelocation_89 : decode b_MO_takeRelocation 89 = .ok (.return_, 1) ∧ 89 + 1 = 90 := ⟨by decide +kernel, rfl⟩
theorem dMO_takeSymbol_0 : decode b_MO_takeSymbol 0 = .ok (.aload_n 0, 1) ∧ 0 + 1 = 1 := ⟨by decide +kernel, rfl⟩
theorem dMO_takeSymbol_1 : decode b_MO_takeSymbol 1 = .ok (.iload_n 2, 1) ∧ 1 + 1 = 2 := ⟨by decide +kernel, rfl⟩
theorem dMO_takeSymbol_2 : decode b_MO_takeSymbol 2 = .ok (.invokevirtual 311, 3) ∧ 2 + 3 = 5 := ⟨by decide +kernel, rfl⟩
theorem dMO_takeSymbol_5 : decode b_MO_takeSymbol 5 = .ok (.istore_n 3, 1) ∧ 5 + 1 = 6 := ⟨by decide +kernel, rfl⟩
theorem dMO_takeSymbol_6 : decode b_MO_takeSymbol 6 = .ok (.aload_n 0, 1) ∧ 6 + 1 = 7 := ⟨by decide +kernel, rfl⟩
theorem dMO_takeSymbol_7 : decode b_MO_takeSymbol 7 = .ok (.getfield 40, 3) ∧ 7 + 3 = 10 := ⟨by decide +kernel, rfl⟩
theorem dMO_takeSymbol_10 : decode b_MO_takeSymbol 10 = .ok (.iload_n 1, 1) ∧ 10 + 1 = 11 := ⟨by decide +kernel, rfl⟩
theorem dMO_takeSymbol_11 : decode b_MO_takeSymbol 11 = .ok (.aload_n 0, 1) ∧ 11 + 1 = 12 := ⟨by decide +kernel, rfl⟩
theorem dMO_takeSymbol_12 : decode b_MO_takeSymbol 12 = .ok (.aload_n 0, 1) ∧ 12 + 1 = 13 := ⟨by decide +kernel, rfl⟩
theorem dMO_takeSymbol_13 : decode b_MO_takeSymbol 13 = .ok (.iload_n 2, 1) ∧ 13 + 1 = 14 := ⟨by decide +kernel, rfl⟩
theorem dMO_takeSymbol_14 : decode b_MO_takeSymbol 14 = .ok (.invokevirtual 314, 3) ∧ 14 + 3 = 17 := ⟨by decide +kernel, rfl⟩
theorem dMO_takeSymbol_17 : decode b_MO_takeSymbol 17 = .ok (.invokevirtual 308, 3) ∧ 17 + 3 = 20 := ⟨by decide +kernel, rfl⟩
theorem dMO_takeSymbol_20 : decode b_MO_takeSymbol 20 = .ok (.iastore, 1) ∧ 20 + 1 = 21 := ⟨by decide +kernel, rfl⟩
theorem dMO_takeSymbol_21 : decode b_MO_takeSymbol 21 = .ok (.iconst 0, 1) ∧ 21 + 1 = 22 := ⟨by decide +kernel, rfl⟩
theorem dMO_takeSymbol_22 : decode b_MO_takeSymbol 22 = .ok (.istore 4, 2) ∧ 22 + 2 = 24 := ⟨by decide +kernel, rfl⟩
theorem dMO_takeSymbol_24 : decode b_MO_takeSymbol 24 = .ok (.iload 4, 2) ∧ 24 + 2 = 26 := ⟨by decide +kernel, rfl⟩
theorem dMO_takeSymbol_26 : decode b_MO_takeSymbol 26 = .ok (.aload_n 0, 1) ∧ 26 + 1 = 27 := ⟨by decide +kernel, rfl⟩
theorem dMO_takeSymbol_27 : decode b_MO_takeSymbol 27 = .ok (.getfield 40, 3) ∧ 27 + 3 = 30 := ⟨by decide +kernel, rfl⟩
theorem dMO_takeSymbol_30 : decode b_MO_takeSymbol 30 = .ok (.iload_n 1, 1) ∧ 30 + 1 = 31 := ⟨by decide +kernel, rfl⟩
theorem dMO_takeSymbol_31 : decode b_MO_takeSymbol 31 = .ok (.iaload, 1) ∧ 31 + 1 = 32 := ⟨by decide +kernel, rfl⟩
theorem dMO_takeSymbol_32 : decode b_MO_takeSymbol 32 = .ok (.if_icmp .ge (34), 3) ∧ 32 + 3 = 35 ∧ ((32 : Nat) : Int) + (34) = ((66 : Nat) : Int) := ⟨by decide +kernel, rfl, by decide⟩
theorem dMO_takeSymbol_35 : decode b_MO_takeSymbol 35 = .ok (.aload_n 0, 1) ∧ 35 + 1 = 36 := ⟨by decide +kernel, rfl⟩
theorem dMO_takeSymbol_36 : decode b_MO_takeSymbol 36 = .ok (.getfield 43, 3) ∧ 36 + 3 = 39 := ⟨by decide +kernel, rfl⟩
theorem dMO_takeSymbol_39 : decode b_MO_takeSymbol 39 = .ok (.bipush (16), 2) ∧ 39 + 2 = 41 := ⟨by decide +kernel, rfl⟩
theorem dMO_takeSymbol_41 : decode b_MO_takeSymbol 41 = .ok (.iload_n 1, 1) ∧ 41 + 1 = 42 := ⟨by decide +kernel, rfl⟩
theorem dMO_takeSymbol_42 : decode b_MO_takeSymbol 42 = .ok (.imul, 1) ∧ 42 + 1 = 43 := ⟨by decide +kernel, rfl⟩
theorem dMO_takeSymbol_43 : decode b_MO_takeSymbol 43 = .ok (.iload 4, 2) ∧ 43 + 2 = 45 := ⟨by decide +kernel, rfl⟩
theorem dMO_takeSymbol_45 : decode b_MO_takeSymbol 45 = .ok (.iadd, 1) ∧ 45 + 1 = 46 := ⟨by decide +kernel, rfl⟩
theorem dMO_takeSymbol_46 : decode b_MO_takeSymbol 46 = .ok (.aload_n 0, 1) ∧ 46 + 1 = 47 := ⟨by decide +kernel, rfl⟩
theorem dMO_takeSymbol_47 : decode b_MO_takeSymbol 47 = .ok (.getfield 70, 3) ∧ 47 + 3 = 50 := ⟨by decide +kernel, rfl⟩
theorem dMO_takeSymbol_50 : decode b_MO_takeSymbol 50 = .ok (.aload_n 0, 1) ∧ 50 + 1 = 51 := ⟨by decide +kernel, rfl⟩
theorem dMO_takeSymbol_51 : decode b_MO_takeSymbol 51 = .ok (.iload_n 2, 1) ∧ 51 + 1 = 52 := ⟨by decide +kernel, rfl⟩
theorem dMO_takeSymbol_52 : decode b_MO_takeSymbol 52 = .ok (.invokevirtual 314, 3) ∧ 52 + 3 = 55 := ⟨by decide +kernel, rfl⟩
theorem dMO_takeSymbol_55 : decode b_MO_takeSymbol 55 = .ok (.iload 4, 2) ∧ 55 + 2 = 57 := ⟨by decide +kernel, rfl⟩
theorem dMO_takeSymbol_57 : decode b_MO_takeSymbol 57 = .ok (.iadd, 1) ∧ 57 + 1 = 58 := ⟨by decide +kernel, rfl⟩
theorem dMO_takeSymbol_58 : decode b_MO_takeSymbol 58 = .ok (.iaload, 1) ∧ 58 + 1 = 59 := ⟨by decide +kernel, rfl⟩
theorem dMO_takeSymbol_59 : decode b_MO_takeSymbol 59 = .ok (.iastore, 1) ∧ 59 + 1 = 60 := ⟨by decide +kernel, rfl⟩
theorem dMO_takeSymbol_60 : decode b_MO_takeSymbol 60 = .ok (.iinc 4 (1), 3) ∧ 60 + 3 = 63 := ⟨by decide +kernel, rfl⟩
theorem dMO_takeSymbol_63 : decode b_MO_takeSymbol 63 = .ok (.goto (-39), 3) ∧ 63 + 3 = 66 ∧ ((63 : Nat) : Int) + (-39) = ((24 : Nat) : Int) := ⟨by decide +kernel, rfl, by decide⟩
theorem dMO_takeSymbol_66 : decode b_MO_takeSymbol 66 = .ok (.aload_n 0, 1) ∧ 66 + 1 = 67 := ⟨by decide +kernel, rfl⟩
theorem dMO_takeSymbol_67 : decode b_MO_takeSymbol 67 = .ok (.getfield 25, 3) ∧ 67 + 3 = 70 := ⟨by decide +kernel, rfl⟩
theorem dMO_takeSymbol_70 : decode b_MO_takeSymbol 70 = .ok (.iload_n 1, 1) ∧ 70 + 1 = 71 := ⟨by decide +kernel, rfl⟩
theorem dMO_takeSymbol_71 : decode b_MO_takeSymbol 71 = .ok (.aload_n 0, 1) ∧ 71 + 1 = 72 := ⟨by decide +kernel, rfl⟩
theorem dMO_takeSymbol_72 : decode b_MO_takeSymbol 72 = .ok (.iload_n 2, 1) ∧ 72 + 1 = 73 := ⟨by decide +kernel, rfl⟩
theorem dMO_takeSymbol_73 : decode b_MO_takeSymbol 73 = .ok (.invokevirtual 317, 3) ∧ 73 + 3 = 76 := ⟨by decide +kernel, rfl⟩
theorem dMO_takeSymbol_76 : decode b_MO_takeSymbol 76 = .ok (.iastore, 1) ∧ 76 + 1 = 77 := ⟨by decide +kernel, rfl⟩
theorem dMO_takeSymbol_77 : decode b_MO_takeSymbol 77 = .ok (.aload_n 0, 1) ∧ 77 + 1 = 78 := ⟨by decide +kernel, rfl⟩
theorem dMO_takeSymbol_78 : decode b_MO_takeSymbol 78 = .ok (.getfield 28, 3) ∧ 78 + 3 = 81 := ⟨by decide +kernel, rfl⟩
theorem dMO_takeSymbol_81 : decode b_MO_takeSymbol 81 = .ok (.iload_n 1, 1) ∧ 81 + 1 = 82 := ⟨by decide +kernel, rfl⟩
theorem dMO_takeSymbol_82 : decode b_MO_takeSymbol 82 = .ok (.aload_n 0, 1) ∧ 82 + 1 = 83 := ⟨by decide +kernel, rfl⟩
theorem dMO_takeSymbol_83 : decode b_MO_takeSymbol 83 = .ok (.iload_n 3, 1) ∧ 83 + 1 = 84 := ⟨by decide +kernel, rfl⟩
theorem dMO_takeSymbol_84 : decode b_MO_takeSymbol 84 = .ok (.iconst 4, 1) ∧ 84 + 1 = 85 := ⟨by decide +kernel, rfl⟩
theorem dMO_takeSymbol_85 : decode b_MO_takeSymbol 85 = .ok (.iadd, 1) ∧ 85 + 1 = 86 := ⟨by decide +kernel, rfl⟩
theorem dMO_takeSymbol_86 : decode b_MO_takeSymbol 86 = .ok (.invokevirtual 260, 3) ∧ 86 + 3 = 89 := ⟨by decide +kernel, rfl⟩
theorem dMO_takeSymbol_89 : decode b_MO_takeSymbol 89 = .ok (.l2i, 1) ∧ 89 + 1 = 90 := ⟨by decide +kernel, rfl⟩
theorem dMO_takeSymbol_90 : decode b_MO_takeSymbol 90 = .ok (.iastore, 1) ∧ 90 + 1 = 91 := ⟨by decide +kernel, rfl⟩
theorem dMO_takeSymbol_91 : decode b_MO_takeSymbol 91 = .ok (.aload_n 0, 1) ∧ 91 + 1 = 92 := ⟨by decide +kernel, rfl⟩
theorem dMO_takeSymbol_92 : decode b_MO_takeSymbol 92 = .ok (.getfield 31, 3) ∧ 92 + 3 = 95 := ⟨by decide +kernel, rfl⟩
theorem dMO_takeSymbol_95 : decode b_MO_takeSymbol 95 = .ok (.iload_n 1, 1) ∧ 95 + 1 = 96 := ⟨by decide +kernel, rfl⟩
theorem dMO_takeSymbol_96 : decode b_MO_takeSymbol 96 = .ok (.aload_n 0, 1) ∧ 96 + 1 = 97 := ⟨by decide +kernel, rfl⟩
theorem dMO_takeSymbol_97 : decode b_MO_takeSymbol 97 = .ok (.iload_n 3, 1) ∧ 97 + 1 = 98 := ⟨by decide +kernel, rfl⟩
theorem dMO_takeSymbol_98 : decode b_MO_takeSymbol 98 = .ok (.bipush (8), 2) ∧ 98 + 2 = 100 := ⟨by decide +kernel, rfl⟩
theorem dMO_takeSymbol_100 : decode b_MO_takeSymbol 100 = .ok (.iadd, 1) ∧ 100 + 1 = 101 := ⟨by decide +kernel, rfl⟩
theorem dMO_takeSymbol_101 : decode b_MO_takeSymbol 101 = .ok (.invokevirtual 260, 3) ∧ 101 + 3 = 104 := ⟨by decide +kernel, rfl⟩
theorem dMO_takeSymbol_104 : decode b_MO_takeSymbol 104 = .ok (.l2i, 1) ∧ 104 + 1 = 105 := ⟨by decide +kernel, rfl⟩
theorem dMO_takeSymbol_105 : decode b_MO_takeSymbol 105 = .ok (.iastore, 1) ∧ 105 + 1 = 106 := ⟨by decide +kernel, rfl⟩
theorem dMO_takeSymbol_106 : decode b_MO_takeSymbol 106 = .ok (.aload_n 0, 1) ∧ 106 + 1 = 107 := ⟨by decide +kernel, rfl⟩
theorem dMO_takeSymbol_107 : decode b_MO_takeSymbol 107 = .ok (.getfield 34, 3) ∧ 107 + 3 = 110 := ⟨by decide +kernel, rfl⟩
theorem dMO_takeSymbol_110 : decode b_MO_takeSymbol 110 = .ok (.iload_n 1, 1) ∧ 110 + 1 = 111 := ⟨by decide +kernel, rfl⟩
theorem dMO_takeSymbol_111 : decode b_MO_takeSymbol 111 = .ok (.aload_n 0, 1) ∧ 111 + 1 = 112 := ⟨by decide +kernel, rfl⟩
theorem dMO_takeSymbol_112 : decode b_MO_takeSymbol 112 = .ok (.iload_n 2, 1) ∧ 112 + 1 = 113 := ⟨by decide +kernel, rfl⟩
theorem dMO_takeSymbol_113 : decode b_MO_takeSymbol 113 = .ok (.invokevirtual 320, 3) ∧ 113 + 3 = 116 := ⟨by decide +kernel, rfl⟩
theorem dMO_takeSymbol_116 : decode b_MO_takeSymbol 116 = .ok (.iastore, 1) ∧ 116 + 1 = 117 := ⟨by decide +kernel, rfl⟩
theorem dMO_takeSymbol_117 : decode b_MO_takeSymbol 117 = .ok (.aload_n 0, 1) ∧ 117 + 1 = 118 := ⟨by decide +kernel, rfl⟩
theorem dMO_takeSymbol_118 : decode b_MO_takeSymbol 118 = .ok (.getfield 37, 3) ∧ 118 + 3 = 121 := ⟨by decide +kernel, rfl⟩
theorem dMO_takeSymbol_121 : decode b_MO_takeSymbol 121 = .ok (.iload_n 1, 1) ∧ 121 + 1 = 122 := ⟨by decide +kernel, rfl⟩
theorem dMO_takeSymbol_122 : decode b_MO_takeSymbol 122 = .ok (.aload_n 0, 1) ∧ 122 + 1 = 123 := ⟨by decide +kernel, rfl⟩
theorem dMO_takeSymbol_123 : decode b_MO_takeSymbol 123 = .ok (.getfield 70, 3) ∧ 123 + 3 = 126 := ⟨by decide +kernel, rfl⟩
theorem dMO_takeSymbol_126 : decode b_MO_takeSymbol 126 = .ok (.iload_n 3, 1) ∧ 126 + 1 = 127 := ⟨by decide +kernel, rfl⟩
theorem dMO_takeSymbol_127 : decode b_MO_takeSymbol 127 = .ok (.bipush (12), 2) ∧ 127 + 2 = 129 := ⟨by decide +kernel, rfl⟩
theorem dMO_takeSymbol_129 : decode b_MO_takeSymbol 129 = .ok (.iadd, 1) ∧ 129 + 1 = 130 := ⟨by decide +kernel, rfl⟩
theorem dMO_takeSymbol_130 : decode b_MO_takeSymbol 130 = .ok (.iaload, 1) ∧ 130 + 1 = 131 := ⟨by decide +kernel, rfl⟩
theorem dMO_takeSymbol_131 : decode b_MO_takeSymbol 131 = .ok (.bipush (15), 2) ∧ 131 + 2 = 133 := ⟨by decide +kernel, rfl⟩
theorem dMO_takeSymbol_133 : decode b_MO_takeSymbol 133 = .ok (.iand, 1) ∧ 133 + 1 = 134 := ⟨by decide +kernel, rfl⟩
theorem dMO_takeSymbol_134 : decode b_MO_takeSymbol 134 = .ok (.iastore, 1) ∧ 134 + 1 = 135 := ⟨by decide +kernel, rfl⟩
theorem dMO_takeSymbol_135 : decode b_MO_takeSymbol 135 = .ok (.return_, 1) ∧ 135 + 1 = 136 := ⟨by decide +kernel, rfl⟩
theorem dMO_read_0 : decode b_MO_read 0 = .ok (.aload_n 0, 1) ∧ 0 + 1 = 1 := ⟨by decide +kernel, rfl⟩
theorem dMO_read_1 : decode b_MO_read 1 = .ok (.invokevirtual 366, 3) ∧ 1 + 3 = 4 := ⟨by decide +kernel, rfl⟩
theorem dMO_read_4 : decode b_MO_read 4 = .ok (.istore_n 1, 1) ∧ 4 + 1 = 5 := ⟨by decide +kernel, rfl⟩
theorem dMO_read_5 : decode b_MO_read 5 = .ok (.iload_n 1, 1) ∧ 5 + 1 = 6 := ⟨by decide +kernel, rfl⟩
theorem dMO_read_6 : decode b_MO_read 6 = .ok (.ifCond .eq (5), 3) ∧ 6 + 3 = 9 ∧ ((6 : Nat) : Int) + (5) = ((11 : Nat) : Int) := ⟨by decide +kernel, rfl, by decide⟩
theorem dMO_read_9 : decode b_MO_read 9 = .ok (.iload_n 1, 1) ∧ 9 + 1 = 10 := ⟨by decide +kernel, rfl⟩
theorem dMO_read_10 : decode b_MO_read 10 = .ok (.ireturn, 1) ∧ 10 + 1 = 11 := ⟨by decide +kernel, rfl⟩
theorem dMO_read_11 : decode b_MO_read 11 = .ok (.aload_n 0, 1) ∧ 11 + 1 = 12 := ⟨by decide +kernel, rfl⟩
theorem dMO_read_12 : decode b_MO_read 12 = .ok (.iconst (-1), 1) ∧ 12 + 1 = 13 := ⟨by decide +kernel, rfl⟩
theorem dMO_read_13 : decode b_MO_read 13 = .ok (.putfield 73, 3) ∧ 13 + 3 = 16 := ⟨by decide +kernel, rfl⟩
theorem dMO_read_16 : decode b_MO_read 16 = .ok (.iconst 0, 1) ∧ 16 + 1 = 17 := ⟨by decide +kernel, rfl⟩
theorem dMO_read_17 : decode b_MO_read 17 = .ok (.istore_n 2, 1) ∧ 17 + 1 = 18 := ⟨by decide +kernel, rfl⟩
theorem dMO_read_18 : decode b_MO_read 18 = .ok (.iload_n 2, 1) ∧ 18 + 1 = 19 := ⟨by decide +kernel, rfl⟩
theorem dMO_read_19 : decode b_MO_read 19 = .ok (.iconst 4, 1) ∧ 19 + 1 = 20 := ⟨by decide +kernel, rfl⟩
theorem dMO_read_20 : decode b_MO_read 20 = .ok (.if_icmp .ge (111), 3) ∧ 20 + 3 = 23 ∧ ((20 : Nat) : Int) + (111) = ((131 : Nat) : Int) := ⟨by decide +kernel, rfl, by decide⟩
theorem dMO_read_23 : decode b_MO_read 23 = .ok (.aload_n 0, 1) ∧ 23 + 1 = 24 := ⟨by decide +kernel, rfl⟩
theorem dMO_read_24 : decode b_MO_read 24 = .ok (.getfield 107, 3) ∧ 24 + 3 = 27 := ⟨by decide +kernel, rfl⟩
theorem dMO_read_27 : decode b_MO_read 27 = .ok (.iload_n 2, 1) ∧ 27 + 1 = 28 := ⟨by decide +kernel, rfl⟩
theorem dMO_read_28 : decode b_MO_read 28 = .ok (.iaload, 1) ∧ 28 + 1 = 29 := ⟨by decide +kernel, rfl⟩
theorem dMO_read_29 : decode b_MO_read 29 = .ok (.istore_n 3, 1) ∧ 29 + 1 = 30 := ⟨by decide +kernel, rfl⟩
theorem dMO_read_30 : decode b_MO_read 30 = .ok (.aload_n 0, 1) ∧ 30 + 1 = 31 := ⟨by decide +kernel, rfl⟩
theorem dMO_read_31 : decode b_MO_read 31 = .ok (.getfield 13, 3) ∧ 31 + 3 = 34 := ⟨by decide +kernel, rfl⟩
theorem dMO_read_34 : decode b_MO_read 34 = .ok (.iconst 4, 1) ∧ 34 + 1 = 35 := ⟨by decide +kernel, rfl⟩
theorem dMO_read_35 : decode b_MO_read 35 = .ok (.iload_n 2, 1) ∧ 35 + 1 = 36 := ⟨by decide +kernel, rfl⟩
theorem dMO_read_36 : decode b_MO_read 36 = .ok (.iadd, 1) ∧ 36 + 1 = 37 := ⟨by decide +kernel, rfl⟩
theorem dMO_read_37 : decode b_MO_read 37 = .ok (.aload_n 0, 1) ∧ 37 + 1 = 38 := ⟨by decide +kernel, rfl⟩
theorem dMO_read_38 : decode b_MO_read 38 = .ok (.iload_n 2, 1) ∧ 38 + 1 = 39 := ⟨by decide +kernel, rfl⟩
theorem dMO_read_39 : decode b_MO_read 39 = .ok (.invokevirtual 302, 3) ∧ 39 + 3 = 42 := ⟨by decide +kernel, rfl⟩
theorem dMO_read_42 : decode b_MO_read 42 = .ok (.l2i, 1) ∧ 42 + 1 = 43 := ⟨by decide +kernel, rfl⟩
theorem dMO_read_43 : decode b_MO_read 43 = .ok (.iastore, 1) ∧ 43 + 1 = 44 := ⟨by decide +kernel, rfl⟩
theorem dMO_read_44 : decode b_MO_read 44 = .ok (.aload_n 0, 1) ∧ 44 + 1 = 45 := ⟨by decide +kernel, rfl⟩
theorem dMO_read_45 : decode b_MO_read 45 = .ok (.getfield 16, 3) ∧ 45 + 3 = 48 := ⟨by decide +kernel, rfl⟩
theorem dMO_read_48 : decode b_MO_read 48 = .ok (.iconst 4, 1) ∧ 48 + 1 = 49 := ⟨by decide +kernel, rfl⟩
theorem dMO_read_49 : decode b_MO_read 49 = .ok (.iload_n 2, 1) ∧ 49 + 1 = 50 := ⟨by decide +kernel, rfl⟩
theorem dMO_read_50 : decode b_MO_read 50 = .ok (.iadd, 1) ∧ 50 + 1 = 51 := ⟨by decide +kernel, rfl⟩
theorem dMO_read_51 : decode b_MO_read 51 = .ok (.iload_n 3, 1) ∧ 51 + 1 = 52 := ⟨by decide +kernel, rfl⟩
theorem dMO_read_52 : decode b_MO_read 52 = .ok (.ifCond .ne (7), 3) ∧ 52 + 3 = 55 ∧ ((52 : Nat) : Int) + (7) = ((59 : Nat) : Int) := ⟨by decide +kernel, rfl, by decide⟩
theorem dMO_read_55 : decode b_MO_read 55 = .ok (.iconst 1, 1) ∧ 55 + 1 = 56 := ⟨by decide +kernel, rfl⟩
theorem dMO_read_56 : decode b_MO_read 56 = .ok (.goto (11), 3) ∧ 56 + 3 = 59 ∧ ((56 : Nat) : Int) + (11) = ((67 : Nat) : Int) := ⟨by decide +kernel, rfl, by decide⟩
theorem dMO_read_59 : decode b_MO_read 59 = .ok (.aload_n 0, 1) ∧ 59 + 1 = 60 := ⟨by decide +kernel, rfl⟩
theorem dMO_read_60 : decode b_MO_read 60 = .ok (.iload_n 3, 1) ∧ 60 + 1 = 61 := ⟨by decide +kernel, rfl⟩
theorem dMO_read_61 : decode b_MO_read 61 = .ok (.bipush (8), 2) ∧ 61 + 2 = 63 := ⟨by decide +kernel, rfl⟩
theorem dMO_read_63 : decode b_MO_read 63 = .ok (.invokevirtual 273, 3) ∧ 63 + 3 = 66 := ⟨by decide +kernel, rfl⟩
theorem dMO_read_66 : decode b_MO_read 66 = .ok (.l2i, 1) ∧ 66 + 1 = 67 := ⟨by decide +kernel, rfl⟩
theorem dMO_read_67 : decode b_MO_read 67 = .ok (.iastore, 1) ∧ 67 + 1 = 68 := ⟨by decide +kernel, rfl⟩
theorem dMO_read_68 : decode b_MO_read 68 = .ok (.iconst 0, 1) ∧ 68 + 1 = 69 := ⟨by decide +kernel, rfl⟩
theorem dMO_read_69 : decode b_MO_read 69 = .ok (.istore 4, 2) ∧ 69 + 2 = 71 := ⟨by decide +kernel, rfl⟩
theorem dMO_read_71 : decode b_MO_read 71 = .ok (.iload 4, 2) ∧ 71 + 2 = 73 := ⟨by decide +kernel, rfl⟩
theorem dMO_read_73 : decode b_MO_read 73 = .ok (.aload_n 0, 1) ∧ 73 + 1 = 74 := ⟨by decide +kernel, rfl⟩
theorem dMO_read_74 : decode b_MO_read 74 = .ok (.getfield 13, 3) ∧ 74 + 3 = 77 := ⟨by decide +kernel, rfl⟩
theorem dMO_read_77 : decode b_MO_read 77 = .ok (.iconst 4, 1) ∧ 77 + 1 = 78 := ⟨by decide +kernel, rfl⟩
theorem dMO_read_78 : decode b_MO_read 78 = .ok (.iload_n 2, 1) ∧ 78 + 1 = 79 := ⟨by decide +kernel, rfl⟩
theorem dMO_read_79 : decode b_MO_read 79 = .ok (.iadd, 1) ∧ 79 + 1 = 80 := ⟨by decide +kernel, rfl⟩
theorem dMO_read_80 : decode b_MO_read 80 = .ok (.iaload, 1) ∧ 80 + 1 = 81 := ⟨by decide +kernel, rfl⟩
theorem dMO_read_81 : decode b_MO_read 81 = .ok (.if_icmp .ge (44), 3) ∧ 81 + 3 = 84 ∧ ((81 : Nat) : Int) + (44) = ((125 : Nat) : Int) := ⟨by decide +kernel, rfl, by decide⟩
theorem dMO_read_84 : decode b_MO_read 84 = .ok (.iload_n 2, 1) ∧ 84 + 1 = 85 := ⟨by decide +kernel, rfl⟩
theorem dMO_read_85 : decode b_MO_read 85 = .ok (.iconst 3, 1) ∧ 85 + 1 = 86 := ⟨by decide +kernel, rfl⟩
theorem dMO_read_86 : decode b_MO_read 86 = .ok (.if_icmp .ge (39), 3) ∧ 86 + 3 = 89 ∧ ((86 : Nat) : Int) + (39) = ((125 : Nat) : Int) := ⟨by decide +kernel, rfl, by decide⟩
theorem dMO_read_89 : decode b_MO_read 89 = .ok (.aload_n 0, 1) ∧ 89 + 1 = 90 := ⟨by decide +kernel, rfl⟩
theorem dMO_read_90 : decode b_MO_read 90 = .ok (.getfield 7, 3) ∧ 90 + 3 = 93 := ⟨by decide +kernel, rfl⟩
theorem dMO_read_93 : decode b_MO_read 93 = .ok (.sipush (6144), 3) ∧ 93 + 3 = 96 := ⟨by decide +kernel, rfl⟩
theorem dMO_read_96 : decode b_MO_read 96 = .ok (.sipush (2048), 3) ∧ 96 + 3 = 99 := ⟨by decide +kernel, rfl⟩
theorem dMO_read_99 : decode b_MO_read 99 = .ok (.iload_n 2, 1) ∧ 99 + 1 = 100 := ⟨by decide +kernel, rfl⟩
theorem dMO_read_100 : decode b_MO_read 100 = .ok (.imul, 1) ∧ 100 + 1 = 101 := ⟨by decide +kernel, rfl⟩
theorem dMO_read_101 : decode b_MO_read 101 = .ok (.iadd, 1) ∧ 101 + 1 = 102 := ⟨by decide +kernel, rfl⟩
theorem dMO_read_102 : decode b_MO_read 102 = .ok (.iload 4, 2) ∧ 102 + 2 = 104 := ⟨by decide +kernel, rfl⟩
theorem dMO_read_104 : decode b_MO_read 104 = .ok (.iadd, 1) ∧ 104 + 1 = 105 := ⟨by decide +kernel, rfl⟩
theorem dMO_read_105 : decode b_MO_read 105 = .ok (.aload_n 0, 1) ∧ 105 + 1 = 106 := ⟨by decide +kernel, rfl⟩
theorem dMO_read_106 : decode b_MO_read 106 = .ok (.getfield 70, 3) ∧ 106 + 3 = 109 := ⟨by decide +kernel, rfl⟩
theorem dMO_read_109 : decode b_MO_read 109 = .ok (.aload_n 0, 1) ∧ 109 + 1 = 110 := ⟨by decide +kernel, rfl⟩
theorem dMO_read_110 : decode b_MO_read 110 = .ok (.iload_n 2, 1) ∧ 110 + 1 = 111 := ⟨by decide +kernel, rfl⟩
theorem dMO_read_111 : decode b_MO_read 111 = .ok (.invokevirtual 305, 3) ∧ 111 + 3 = 114 := ⟨by decide +kernel, rfl⟩
theorem dMO_read_114 : decode b_MO_read 114 = .ok (.iload 4, 2) ∧ 114 + 2 = 116 := ⟨by decide +kernel, rfl⟩
theorem dMO_read_116 : decode b_MO_read 116 = .ok (.iadd, 1) ∧ 116 + 1 = 117 := ⟨by decide +kernel, rfl⟩
theorem dMO_read_117 : decode b_MO_read 117 = .ok (.iaload, 1) ∧ 117 + 1 = 118 := ⟨by decide +kernel, rfl⟩
theorem dMO_read_118 : decode b_MO_read 118 = .ok (.iastore, 1) ∧ 118 + 1 = 119 := ⟨by decide +kernel, rfl⟩
theorem dMO_read_119 : decode b_MO_read 119 = .ok (.iinc 4 (1), 3) ∧ 119 + 3 = 122 := ⟨by decide +kernel, rfl⟩
theorem dMO_read_122 : decode b_MO_read 122 = .ok (.goto (-51), 3) ∧ 122 + 3 = 125 ∧ ((122 : Nat) : Int) + (-51) = ((71 : Nat) : Int) := ⟨by decide +kernel, rfl, by decide⟩
theorem dMO_read_125 : decode b_MO_read 125 = .ok (.iinc 2 (1), 3) ∧ 125 + 3 = 128 := ⟨by decide +kernel, rfl⟩
theorem dMO_read_128 : decode b_MO_read 128 = .ok (.goto (-110), 3) ∧ 128 + 3 = 131 ∧ ((128 : Nat) : Int) + (-110) = ((18 : Nat) : Int) := ⟨by decide +kernel, rfl, by decide⟩
theorem dMO_read_131 : decode b_MO_read 131 = .ok (.aload_n 0, 1) ∧ 131 + 1 = 132 := ⟨by decide +kernel, rfl⟩
theorem dMO_read_132 : decode b_MO_read 132 = .ok (.getfield 22, 3) ∧ 132 + 3 = 135 := ⟨by decide +kernel, rfl⟩
theorem dMO_read_135 : decode b_MO_read 135 = .ok (.iconst 1, 1) ∧ 135 + 1 = 136 := ⟨by decide +kernel, rfl⟩
theorem dMO_read_136 : decode b_MO_read 136 = .ok (.aload_n 0, 1) ∧ 136 + 1 = 137 := ⟨by decide +kernel, rfl⟩
theorem dMO_read_137 : decode b_MO_read 137 = .ok (.iconst 4, 1) ∧ 137 + 1 = 138 := ⟨by decide +kernel, rfl⟩
theorem dMO_read_138 : decode b_MO_read 138 = .ok (.invokevirtual 302, 3) ∧ 138 + 3 = 141 := ⟨by decide +kernel, rfl⟩
theorem dMO_read_141 : decode b_MO_read 141 = .ok (.l2i, 1) ∧ 141 + 1 = 142 := ⟨by decide +kernel, rfl⟩
theorem dMO_read_142 : decode b_MO_read 142 = .ok (.iconst 2, 1) ∧ 142 + 1 = 143 := ⟨by decide +kernel, rfl⟩
theorem dMO_read_143 : decode b_MO_read 143 = .ok (.idiv, 1) ∧ 143 + 1 = 144 := ⟨by decide +kernel, rfl⟩
theorem dMO_read_144 : decode b_MO_read 144 = .ok (.iastore, 1) ∧ 144 + 1 = 145 := ⟨by decide +kernel, rfl⟩
theorem dMO_read_145 : decode b_MO_read 145 = .ok (.iconst 0, 1) ∧ 145 + 1 = 146 := ⟨by decide +kernel, rfl⟩
theorem dMO_read_146 : decode b_MO_read 146 = .ok (.istore_n 2, 1) ∧ 146 + 1 = 147 := ⟨by decide +kernel, rfl⟩
theorem dMO_read_147 : decode b_MO_read 147 = .ok (.iload_n 2, 1) ∧ 147 + 1 = 148 := ⟨by decide +kernel, rfl⟩
theorem dMO_read_148 : decode b_MO_read 148 = .ok (.aload_n 0, 1) ∧ 148 + 1 = 149 := ⟨by decide +kernel, rfl⟩
theorem dMO_read_149 : decode b_MO_read 149 = .ok (.getfield 22, 3) ∧ 149 + 3 = 152 := ⟨by decide +kernel, rfl⟩
theorem dMO_read_152 : decode b_MO_read 152 = .ok (.iconst 1, 1) ∧ 152 + 1 = 153 := ⟨by decide +kernel, rfl⟩
theorem dMO_read_153 : decode b_MO_read 153 = .ok (.iaload, 1) ∧ 153 + 1 = 154 := ⟨by decide +kernel, rfl⟩
theorem dMO_read_154 : decode b_MO_read 154 = .ok (.if_icmp .ge (32), 3) ∧ 154 + 3 = 157 ∧ ((154 : Nat) : Int) + (32) = ((186 : Nat) : Int) := ⟨by decide +kernel, rfl, by decide⟩
theorem dMO_read_157 : decode b_MO_read 157 = .ok (.aload_n 0, 1) ∧ 157 + 1 = 158 := ⟨by decide +kernel, rfl⟩
theorem dMO_read_158 : decode b_MO_read 158 = .ok (.getfield 19, 3) ∧ 158 + 3 = 161 := ⟨by decide +kernel, rfl⟩
theorem dMO_read_161 : decode b_MO_read 161 = .ok (.sipush (1024), 3) ∧ 161 + 3 = 164 := ⟨by decide +kernel, rfl⟩
theorem dMO_read_164 : decode b_MO_read 164 = .ok (.iload_n 2, 1) ∧ 164 + 1 = 165 := ⟨by decide +kernel, rfl⟩
theorem dMO_read_165 : decode b_MO_read 165 = .ok (.iadd, 1) ∧ 165 + 1 = 166 := ⟨by decide +kernel, rfl⟩
theorem dMO_read_166 : decode b_MO_read 166 = .ok (.aload_n 0, 1) ∧ 166 + 1 = 167 := ⟨by decide +kernel, rfl⟩
theorem dMO_read_167 : decode b_MO_read 167 = .ok (.aload_n 0, 1) ∧ 167 + 1 = 168 := ⟨by decide +kernel, rfl⟩
theorem dMO_read_168 : decode b_MO_read 168 = .ok (.iconst 4, 1) ∧ 168 + 1 = 169 := ⟨by decide +kernel, rfl⟩
theorem dMO_read_169 : decode b_MO_read 169 = .ok (.invokevirtual 305, 3) ∧ 169 + 3 = 172 := ⟨by decide +kernel, rfl⟩
theorem dMO_read_172 : decode b_MO_read 172 = .ok (.iconst 2, 1) ∧ 172 + 1 = 173 := ⟨by decide +kernel, rfl⟩
theorem dMO_read_173 : decode b_MO_read 173 = .ok (.iload_n 2, 1) ∧ 173 + 1 = 174 := ⟨by decide +kernel, rfl⟩
theorem dMO_read_174 : decode b_MO_read 174 = .ok (.imul, 1) ∧ 174 + 1 = 175 := ⟨by decide +kernel, rfl⟩
theorem dMO_read_175 : decode b_MO_read 175 = .ok (.iadd, 1) ∧ 175 + 1 = 176 := ⟨by decide +kernel, rfl⟩
theorem dMO_read_176 : decode b_MO_read 176 = .ok (.invokevirtual 249, 3) ∧ 176 + 3 = 179 := ⟨by decide +kernel, rfl⟩
theorem dMO_read_179 : decode b_MO_read 179 = .ok (.iastore, 1) ∧ 179 + 1 = 180 := ⟨by decide +kernel, rfl⟩
theorem dMO_read_180 : decode b_MO_read 180 = .ok (.iinc 2 (1), 3) ∧ 180 + 3 = 183 := ⟨by decide +kernel, rfl⟩
theorem dMO_read_183 : decode b_MO_read 183 = .ok (.goto (-36), 3) ∧ 183 + 3 = 186 ∧ ((183 : Nat) : Int) + (-36) = ((147 : Nat) : Int) := ⟨by decide +kernel, rfl, by decide⟩
theorem dMO_read_186 : decode b_MO_read 186 = .ok (.aload_n 0, 1) ∧ 186 + 1 = 187 := ⟨by decide +kernel, rfl⟩
theorem dMO_read_187 : decode b_MO_read 187 = .ok (.getfield 46, 3) ∧ 187 + 3 = 190 := ⟨by decide +kernel, rfl⟩
theorem dMO_read_190 : decode b_MO_read 190 = .ok (.iconst 1, 1) ∧ 190 + 1 = 191 := ⟨by decide +kernel, rfl⟩
theorem dMO_read_191 : decode b_MO_read 191 = .ok (.aload_n 0, 1) ∧ 191 + 1 = 192 := ⟨by decide +kernel, rfl⟩
theorem dMO_read_192 : decode b_MO_read 192 = .ok (.invokevirtual 334, 3) ∧ 192 + 3 = 195 := ⟨by decide +kernel, rfl⟩
theorem dMO_read_195 : decode b_MO_read 195 = .ok (.iconst 1, 1) ∧ 195 + 1 = 196 := ⟨by decide +kernel, rfl⟩
theorem dMO_read_196 : decode b_MO_read 196 = .ok (.isub, 1) ∧ 196 + 1 = 197 := ⟨by decide +kernel, rfl⟩
theorem dMO_read_197 : decode b_MO_read 197 = .ok (.iastore, 1) ∧ 197 + 1 = 198 := ⟨by decide +kernel, rfl⟩
theorem dMO_read_198 : decode b_MO_read 198 = .ok (.iconst 0, 1) ∧ 198 + 1 = 199 := ⟨by decide +kernel, rfl⟩
theorem dMO_read_199 : decode b_MO_read 199 = .ok (.istore_n 2, 1) ∧ 199 + 1 = 200 := ⟨by decide +kernel, rfl⟩
theorem dMO_read_200 : decode b_MO_read 200 = .ok (.iload_n 2, 1) ∧ 200 + 1 = 201 := ⟨by decide +kernel, rfl⟩
theorem dMO_read_201 : decode b_MO_read 201 = .ok (.aload_n 0, 1) ∧ 201 + 1 = 202 := ⟨by decide +kernel, rfl⟩
theorem dMO_read_202 : decode b_MO_read 202 = .ok (.getfield 46, 3) ∧ 202 + 3 = 205 := ⟨by decide +kernel, rfl⟩
theorem dMO_read_205 : decode b_MO_read 205 = .ok (.iconst 1, 1) ∧ 205 + 1 = 206 := ⟨by decide +kernel, rfl⟩
theorem dMO_read_206 : decode b_MO_read 206 = .ok (.iaload, 1) ∧ 206 + 1 = 207 := ⟨by decide +kernel, rfl⟩
theorem dMO_read_207 : decode b_MO_read 207 = .ok (.if_icmp .ge (20), 3) ∧ 207 + 3 = 210 ∧ ((207 : Nat) : Int) + (20) = ((227 : Nat) : Int) := ⟨by decide +kernel, rfl, by decide⟩
theorem dMO_read_210 : decode b_MO_read 210 = .ok (.aload_n 0, 1) ∧ 210 + 1 = 211 := ⟨by decide +kernel, rfl⟩
theorem dMO_read_211 : decode b_MO_read 211 = .ok (.bipush (100), 2) ∧ 211 + 2 = 213 := ⟨by decide +kernel, rfl⟩
theorem dMO_read_213 : decode b_MO_read 213 = .ok (.iload_n 2, 1) ∧ 213 + 1 = 214 := ⟨by decide +kernel, rfl⟩
theorem dMO_read_214 : decode b_MO_read 214 = .ok (.iadd, 1) ∧ 214 + 1 = 215 := ⟨by decide +kernel, rfl⟩
theorem dMO_read_215 : decode b_MO_read 215 = .ok (.iconst 1, 1) ∧ 215 + 1 = 216 := ⟨by decide +kernel, rfl⟩
theorem dMO_read_216 : decode b_MO_read 216 = .ok (.iload_n 2, 1) ∧ 216 + 1 = 217 := ⟨by decide +kernel, rfl⟩
theorem dMO_read_217 : decode b_MO_read 217 = .ok (.iadd, 1) ∧ 217 + 1 = 218 := ⟨by decide +kernel, rfl⟩
theorem dMO_read_218 : decode b_MO_read 218 = .ok (.invokevirtual 369, 3) ∧ 218 + 3 = 221 := ⟨by decide +kernel, rfl⟩
theorem dMO_read_221 : decode b_MO_read 221 = .ok (.iinc 2 (1), 3) ∧ 221 + 3 = 224 := ⟨by decide +kernel, rfl⟩
theorem dMO_read_224 : decode b_MO_read 224 = .ok (.goto (-24), 3) ∧ 224 + 3 = 227 ∧ ((224 : Nat) : Int) + (-24) = ((200 : Nat) : Int) := ⟨by decide +kernel, rfl, by decide⟩
theorem dMO_read_227 : decode b_MO_read 227 = .ok (.aload_n 0, 1) ∧ 227 + 1 = 228 := ⟨by decide +kernel, rfl⟩
theorem dMO_read_228 : decode b_MO_read 228 = .ok (.getfield 64, 3) ∧ 228 + 3 = 231 := ⟨by decide +kernel, rfl⟩
theorem dMO_read_231 : decode b_MO_read 231 = .ok (.iconst 1, 1) ∧ 231 + 1 = 232 := ⟨by decide +kernel, rfl⟩
theorem dMO_read_232 : decode b_MO_read 232 = .ok (.iconst 0, 1) ∧ 232 + 1 = 233 := ⟨by decide +kernel, rfl⟩
theorem dMO_read_233 : decode b_MO_read 233 = .ok (.iastore, 1) ∧ 233 + 1 = 234 := ⟨by decide +kernel, rfl⟩
theorem dMO_read_234 : decode b_MO_read 234 = .ok (.iconst 0, 1) ∧ 234 + 1 = 235 := ⟨by decide +kernel, rfl⟩
theorem dMO_read_235 : decode b_MO_read 235 = .ok (.istore_n 2, 1) ∧ 235 + 1 = 236 := ⟨by decide +kernel, rfl⟩
theorem dMO_read_236 : decode b_MO_read 236 = .ok (.iload_n 2, 1) ∧ 236 + 1 = 237 := ⟨by decide +kernel, rfl⟩
theorem dMO_read_237 : decode b_MO_read 237 = .ok (.iconst 3, 1) ∧ 237 + 1 = 238 := ⟨by decide +kernel, rfl⟩
theorem dMO_read_238 : decode b_MO_read 238 = .ok (.if_icmp .ge (55), 3) ∧ 238 + 3 = 241 ∧ ((238 : Nat) : Int) + (55) = ((293 : Nat) : Int) := ⟨by decide +kernel, rfl, by decide⟩
theorem dMO_read_241 : decode b_MO_read 241 = .ok (.aload_n 0, 1) ∧ 241 + 1 = 242 := ⟨by decide +kernel, rfl⟩
theorem dMO_read_242 : decode b_MO_read 242 = .ok (.iconst 5, 1) ∧ 242 + 1 = 243 := ⟨by decide +kernel, rfl⟩
theorem dMO_read_243 : decode b_MO_read 243 = .ok (.iload_n 2, 1) ∧ 243 + 1 = 244 := ⟨by decide +kernel, rfl⟩
theorem dMO_read_244 : decode b_MO_read 244 = .ok (.iadd, 1) ∧ 244 + 1 = 245 := ⟨by decide +kernel, rfl⟩
theorem dMO_read_245 : decode b_MO_read 245 = .ok (.invokevirtual 302, 3) ∧ 245 + 3 = 248 := ⟨by decide +kernel, rfl⟩
theorem dMO_read_248 : decode b_MO_read 248 = .ok (.ldc2_w 290, 3) ∧ 248 + 3 = 251 := ⟨by decide +kernel, rfl⟩
theorem dMO_read_251 : decode b_MO_read 251 = .ok (.ldiv, 1) ∧ 251 + 1 = 252 := ⟨by decide +kernel, rfl⟩
theorem dMO_read_252 : decode b_MO_read 252 = .ok (.l2i, 1) ∧ 252 + 1 = 253 := ⟨by decide +kernel, rfl⟩
theorem dMO_read_253 : decode b_MO_read 253 = .ok (.istore_n 3, 1) ∧ 253 + 1 = 254 := ⟨by decide +kernel, rfl⟩
theorem dMO_read_254 : decode b_MO_read 254 = .ok (.iconst 0, 1) ∧ 254 + 1 = 255 := ⟨by decide +kernel, rfl⟩
theorem dMO_read_255 : decode b_MO_read 255 = .ok (.istore 4, 2) ∧ 255 + 2 = 257 := ⟨by decide +kernel, rfl⟩
theorem dMO_read_257 : decode b_MO_read 257 = .ok (.iload 4, 2) ∧ 257 + 2 = 259 := ⟨by decide +kernel, rfl⟩
theorem dMO_read_259 : decode b_MO_read 259 = .ok (.iload_n 3, 1) ∧ 259 + 1 = 260 := ⟨by decide +kernel, rfl⟩
theorem dMO_read_260 : decode b_MO_read 260 = .ok (.if_icmp .ge (27), 3) ∧ 260 + 3 = 263 ∧ ((260 : Nat) : Int) + (27) = ((287 : Nat) : Int) := ⟨by decide +kernel, rfl, by decide⟩
theorem dMO_read_263 : decode b_MO_read 263 = .ok (.aload_n 0, 1) ∧ 263 + 1 = 264 := ⟨by decide +kernel, rfl⟩
theorem dMO_read_264 : decode b_MO_read 264 = .ok (.iload_n 2, 1) ∧ 264 + 1 = 265 := ⟨by decide +kernel, rfl⟩
theorem dMO_read_265 : decode b_MO_read 265 = .ok (.aload_n 0, 1) ∧ 265 + 1 = 266 := ⟨by decide +kernel, rfl⟩
theorem dMO_read_266 : decode b_MO_read 266 = .ok (.iconst 5, 1) ∧ 266 + 1 = 267 := ⟨by decide +kernel, rfl⟩
theorem dMO_read_267 : decode b_MO_read 267 = .ok (.iload_n 2, 1) ∧ 267 + 1 = 268 := ⟨by decide +kernel, rfl⟩
theorem dMO_read_268 : decode b_MO_read 268 = .ok (.iadd, 1) ∧ 268 + 1 = 269 := ⟨by decide +kernel, rfl⟩
theorem dMO_read_269 : decode b_MO_read 269 = .ok (.invokevirtual 305, 3) ∧ 269 + 3 = 272 := ⟨by decide +kernel, rfl⟩
theorem dMO_read_272 : decode b_MO_read 272 = .ok (.bipush (12), 2) ∧ 272 + 2 = 274 := ⟨by decide +kernel, rfl⟩
theorem dMO_read_274 : decode b_MO_read 274 = .ok (.iload 4, 2) ∧ 274 + 2 = 276 := ⟨by decide +kernel, rfl⟩
theorem dMO_read_276 : decode b_MO_read 276 = .ok (.imul, 1) ∧ 276 + 1 = 277 := ⟨by decide +kernel, rfl⟩
theorem dMO_read_277 : decode b_MO_read 277 = .ok (.iadd, 1) ∧ 277 + 1 = 278 := ⟨by decide +kernel, rfl⟩
theorem dMO_read_278 : decode b_MO_read 278 = .ok (.invokevirtual 372, 3) ∧ 278 + 3 = 281 := ⟨by decide +kernel, rfl⟩
theorem dMO_read_281 : decode b_MO_read 281 = .ok (.iinc 4 (1), 3) ∧ 281 + 3 = 284 := ⟨by decide +kernel, rfl⟩
theorem dMO_read_284 : decode b_MO_read 284 = .ok (.goto (-27), 3) ∧ 284 + 3 = 287 ∧ ((284 : Nat) : Int) + (-27) = ((257 : Nat) : Int) := ⟨by decide +kernel, rfl, by decide⟩
theorem dMO_read_287 : decode b_MO_read 287 = .ok (.iinc 2 (1), 3) ∧ 287 + 3 = 290 := ⟨by decide +kernel, rfl⟩
theorem dMO_read_290 : decode b_MO_read 290 = .ok (.goto (-54), 3) ∧ 290 + 3 = 293 ∧ ((290 : Nat) : Int) + (-54) = ((236 : Nat) : Int) := ⟨by decide +kernel, rfl, by decide⟩
theorem dMO_read_293 : decode b_MO_read 293 = .ok (.iconst 0, 1) ∧ 293 + 1 = 294 := ⟨by decide +kernel, rfl⟩
theorem dMO_read_294 : decode b_MO_read 294 = .ok (.ireturn, 1) ∧ 294 + 1 = 295 := ⟨by decide +kernel, rfl⟩
theorem dMO_place_0 : decode b_MO_place 0 = .ok (.aload_n 0, 1) ∧ 0 + 1 = 1 := ⟨by decide +kernel, rfl⟩
theorem dMO_place_1 : decode b_MO_place 1 = .ok (.getfield 73, 3) ∧ 1 + 3 = 4 := ⟨by decide +kernel, rfl⟩
theorem dMO_place_4 : decode b_MO_place 4 = .ok (.ireturn, 1) ∧ 4 + 1 = 5 := ⟨by decide +kernel, rfl⟩
theorem dMO_keep_0 : decode b_MO_keep 0 = .ok (.iconst 0, 1) ∧ 0 + 1 = 1 := ⟨by decide +kernel, rfl⟩
theorem dMO_keep_1 : decode b_MO_keep 1 = .ok (.istore_n 1, 1) ∧ 1 + 1 = 2 := ⟨by decide +kernel, rfl⟩
theorem dMO_keep_2 : decode b_MO_keep 2 = .ok (.iload_n 1, 1) ∧ 2 + 1 = 3 := ⟨by decide +kernel, rfl⟩
theorem dMO_keep_3 : decode b_MO_keep 3 = .ok (.sipush (6144), 3) ∧ 3 + 3 = 6 := ⟨by decide +kernel, rfl⟩
theorem dMO_keep_6 : decode b_MO_keep 6 = .ok (.if_icmp .ge (25), 3) ∧ 6 + 3 = 9 ∧ ((6 : Nat) : Int) + (25) = ((31 : Nat) : Int) := ⟨by decide +kernel, rfl, by decide⟩
theorem dMO_keep_9 : decode b_MO_keep 9 = .ok (.aload_n 0, 1) ∧ 9 + 1 = 10 := ⟨by decide +kernel, rfl⟩
theorem dMO_keep_10 : decode b_MO_keep 10 = .ok (.getfield 7, 3) ∧ 10 + 3 = 13 := ⟨by decide +kernel, rfl⟩
theorem dMO_keep_13 : decode b_MO_keep 13 = .ok (.iload_n 1, 1) ∧ 13 + 1 = 14 := ⟨by decide +kernel, rfl⟩
theorem dMO_keep_14 : decode b_MO_keep 14 = .ok (.aload_n 0, 1) ∧ 14 + 1 = 15 := ⟨by decide +kernel, rfl⟩
theorem dMO_keep_15 : decode b_MO_keep 15 = .ok (.getfield 7, 3) ∧ 15 + 3 = 18 := ⟨by decide +kernel, rfl⟩
theorem dMO_keep_18 : decode b_MO_keep 18 = .ok (.sipush (6144), 3) ∧ 18 + 3 = 21 := ⟨by decide +kernel, rfl⟩
theorem dMO_keep_21 : decode b_MO_keep 21 = .ok (.iload_n 1, 1) ∧ 21 + 1 = 22 := ⟨by decide +kernel, rfl⟩
theorem dMO_keep_22 : decode b_MO_keep 22 = .ok (.iadd, 1) ∧ 22 + 1 = 23 := ⟨by decide +kernel, rfl⟩
theorem dMO_keep_23 : decode b_MO_keep 23 = .ok (.iaload, 1) ∧ 23 + 1 = 24 := ⟨by decide +kernel, rfl⟩
theorem dMO_keep_24 : decode b_MO_keep 24 = .ok (.iastore, 1) ∧ 24 + 1 = 25 := ⟨by decide +kernel, rfl⟩
theorem dMO_keep_25 : decode b_MO_keep 25 = .ok (.iinc 1 (1), 3) ∧ 25 + 3 = 28 := ⟨by decide +kernel, rfl⟩
theorem dMO_keep_28 : decode b_MO_keep 28 = .ok (.goto (-26), 3) ∧ 28 + 3 = 31 ∧ ((28 : Nat) : Int) + (-26) = ((2 : Nat) : Int) := ⟨by decide +kernel, rfl, by decide⟩
theorem dMO_keep_31 : decode b_MO_keep 31 = .ok (.iconst 0, 1) ∧ 31 + 1 = 32 := ⟨by decide +kernel, rfl⟩
theorem dMO_keep_32 : decode b_MO_keep 32 = .ok (.istore_n 1, 1) ∧ 32 + 1 = 33 := ⟨by decide +kernel, rfl⟩
theorem dMO_keep_33 : decode b_MO_keep 33 = .ok (.iload_n 1, 1) ∧ 33 + 1 = 34 := ⟨by decide +kernel, rfl⟩
theorem dMO_keep_34 : decode b_MO_keep 34 = .ok (.iconst 4, 1) ∧ 34 + 1 = 35 := ⟨by decide +kernel, rfl⟩
theorem dMO_keep_35 : decode b_MO_keep 35 = .ok (.if_icmp .ge (37), 3) ∧ 35 + 3 = 38 ∧ ((35 : Nat) : Int) + (37) = ((72 : Nat) : Int) := ⟨by decide +kernel, rfl, by decide⟩
theorem dMO_keep_38 : decode b_MO_keep 38 = .ok (.aload_n 0, 1) ∧ 38 + 1 = 39 := ⟨by decide +kernel, rfl⟩
theorem dMO_keep_39 : decode b_MO_keep 39 = .ok (.getfield 13, 3) ∧ 39 + 3 = 42 := ⟨by decide +kernel, rfl⟩
theorem dMO_keep_42 : decode b_MO_keep 42 = .ok (.iload_n 1, 1) ∧ 42 + 1 = 43 := ⟨by decide +kernel, rfl⟩
theorem dMO_keep_43 : decode b_MO_keep 43 = .ok (.aload_n 0, 1) ∧ 43 + 1 = 44 := ⟨by decide +kernel, rfl⟩
theorem dMO_keep_44 : decode b_MO_keep 44 = .ok (.getfield 13, 3) ∧ 44 + 3 = 47 := ⟨by decide +kernel, rfl⟩
theorem dMO_keep_47 : decode b_MO_keep 47 = .ok (.iconst 4, 1) ∧ 47 + 1 = 48 := ⟨by decide +kernel, rfl⟩
theorem dMO_keep_48 : decode b_MO_keep 48 = .ok (.iload_n 1, 1) ∧ 48 + 1 = 49 := ⟨by decide +kernel, rfl⟩
theorem dMO_keep_49 : decode b_MO_keep 49 = .ok (.iadd, 1) ∧ 49 + 1 = 50 := ⟨by decide +kernel, rfl⟩
theorem dMO_keep_50 : decode b_MO_keep 50 = .ok (.iaload, 1) ∧ 50 + 1 = 51 := ⟨by decide +kernel, rfl⟩
theorem dMO_keep_51 : decode b_MO_keep 51 = .ok (.iastore, 1) ∧ 51 + 1 = 52 := ⟨by decide +kernel, rfl⟩
theorem dMO_keep_52 : decode b_MO_keep 52 = .ok (.aload_n 0, 1) ∧ 52 + 1 = 53 := ⟨by decide +kernel, rfl⟩
theorem dMO_keep_53 : decode b_MO_keep 53 = .ok (.getfield 16, 3) ∧ 53 + 3 = 56 := ⟨by decide +kernel, rfl⟩
theorem dMO_keep_56 : decode b_MO_keep 56 = .ok (.iload_n 1, 1) ∧ 56 + 1 = 57 := ⟨by decide +kernel, rfl⟩
theorem dMO_keep_57 : decode b_MO_keep 57 = .ok (.aload_n 0, 1) ∧ 57 + 1 = 58 := ⟨by decide +kernel, rfl⟩
theorem dMO_keep_58 : decode b_MO_keep 58 = .ok (.getfield 16, 3) ∧ 58 + 3 = 61 := ⟨by decide +kernel, rfl⟩
theorem dMO_keep_61 : decode b_MO_keep 61 = .ok (.iconst 4, 1) ∧ 61 + 1 = 62 := ⟨by decide +kernel, rfl⟩
theorem dMO_keep_62 : decode b_MO_keep 62 = .ok (.iload_n 1, 1) ∧ 62 + 1 = 63 := ⟨by decide +kernel, rfl⟩
theorem dMO_keep_63 : decode b_MO_keep 63 = .ok (.iadd, 1) ∧ 63 + 1 = 64 := ⟨by decide +kernel, rfl⟩
theorem dMO_keep_64 : decode b_MO_keep 64 = .ok (.iaload, 1) ∧ 64 + 1 = 65 := ⟨by decide +kernel, rfl⟩
theorem dMO_keep_65 : decode b_MO_keep 65 = .ok (.iastore, 1) ∧ 65 + 1 = 66 := ⟨by decide +kernel, rfl⟩
theorem dMO_keep_66 : decode b_MO_keep 66 = .ok (.iinc 1 (1), 3) ∧ 66 + 3 = 69 := ⟨by decide +kernel, rfl⟩
theorem dMO_keep_69 : decode b_MO_keep 69 = .ok (.goto (-36), 3) ∧ 69 + 3 = 72 ∧ ((69 : Nat) : Int) + (-36) = ((33 : Nat) : Int) := ⟨by decide +kernel, rfl, by decide⟩
theorem dMO_keep_72 : decode b_MO_keep 72 = .ok (.iconst 0, 1) ∧ 72 + 1 = 73 := ⟨by decide +kernel, rfl⟩
theorem dMO_keep_73 : decode b_MO_keep 73 = .ok (.istore_n 1, 1) ∧ 73 + 1 = 74 := ⟨by decide +kernel, rfl⟩
theorem dMO_keep_74 : decode b_MO_keep 74 = .ok (.iload_n 1, 1) ∧ 74 + 1 = 75 := ⟨by decide +kernel, rfl⟩
theorem dMO_keep_75 : decode b_MO_keep 75 = .ok (.sipush (1024), 3) ∧ 75 + 3 = 78 := ⟨by decide +kernel, rfl⟩
theorem dMO_keep_78 : decode b_MO_keep 78 = .ok (.if_icmp .ge (25), 3) ∧ 78 + 3 = 81 ∧ ((78 : Nat) : Int) + (25) = ((103 : Nat) : Int) := ⟨by decide +kernel, rfl, by decide⟩
theorem dMO_keep_81 : decode b_MO_keep 81 = .ok (.aload_n 0, 1) ∧ 81 + 1 = 82 := ⟨by decide +kernel, rfl⟩
theorem dMO_keep_82 : decode b_MO_keep 82 = .ok (.getfield 19, 3) ∧ 82 + 3 = 85 := ⟨by decide +kernel, rfl⟩
theorem dMO_keep_85 : decode b_MO_keep 85 = .ok (.iload_n 1, 1) ∧ 85 + 1 = 86 := ⟨by decide +kernel, rfl⟩
theorem dMO_keep_86 : decode b_MO_keep 86 = .ok (.aload_n 0, 1) ∧ 86 + 1 = 87 := ⟨by decide +kernel, rfl⟩
theorem dMO_keep_87 : decode b_MO_keep 87 = .ok (.getfield 19, 3) ∧ 87 + 3 = 90 := ⟨by decide +kernel, rfl⟩
theorem dMO_keep_90 : decode b_MO_keep 90 = .ok (.sipush (1024), 3) ∧ 90 + 3 = 93 := ⟨by decide +kernel, rfl⟩
theorem dMO_keep_93 : decode b_MO_keep 93 = .ok (.iload_n 1, 1) ∧ 93 + 1 = 94 := ⟨by decide +kernel, rfl⟩
theorem dMO_keep_94 : decode b_MO_keep 94 = .ok (.iadd, 1) ∧ 94 + 1 = 95 := ⟨by decide +kernel, rfl⟩
theorem dMO_keep_95 : decode b_MO_keep 95 = .ok (.iaload, 1) ∧ 95 + 1 = 96 := ⟨by decide +kernel, rfl⟩
theorem dMO_keep_96 : decode b_MO_keep 96 = .ok (.iastore, 1) ∧ 96 + 1 = 97 := ⟨by decide +kernel, rfl⟩
theorem dMO_keep_97 : decode b_MO_keep 97 = .ok (.iinc 1 (1), 3) ∧ 97 + 3 = 100 := ⟨by decide +kernel, rfl⟩
theorem dMO_keep_100 : decode b_MO_keep 100 = .ok (.goto (-26), 3) ∧ 100 + 3 = 103 ∧ ((100 : Nat) : Int) + (-26) = ((74 : Nat) : Int) := ⟨by decide +kernel, rfl, by decide⟩
theorem dMO_keep_103 : decode b_MO_keep 103 = .ok (.iconst 0, 1) ∧ 103 + 1 = 104 := ⟨by decide +kernel, rfl⟩
theorem dMO_keep_104 : decode b_MO_keep 104 = .ok (.istore_n 1, 1) ∧ 104 + 1 = 105 := ⟨by decide +kernel, rfl⟩
theorem dMO_keep_105 : decode b_MO_keep 105 = .ok (.iload_n 1, 1) ∧ 105 + 1 = 106 := ⟨by decide +kernel, rfl⟩
theorem dMO_keep_106 : decode b_MO_keep 106 = .ok (.bipush (100), 2) ∧ 106 + 2 = 108 := ⟨by decide +kernel, rfl⟩
theorem dMO_keep_108 : decode b_MO_keep 108 = .ok (.if_icmp .ge (99), 3) ∧ 108 + 3 = 111 ∧ ((108 : Nat) : Int) + (99) = ((207 : Nat) : Int) := ⟨by decide +kernel, rfl, by decide⟩
theorem dMO_keep_111 : decode b_MO_keep 111 = .ok (.aload_n 0, 1) ∧ 111 + 1 = 112 := ⟨by decide +kernel, rfl⟩
theorem dMO_keep_112 : decode b_MO_keep 112 = .ok (.getfield 25, 3) ∧ 112 + 3 = 115 := ⟨by decide +kernel, rfl⟩
theorem dMO_keep_115 : decode b_MO_keep 115 = .ok (.iload_n 1, 1) ∧ 115 + 1 = 116 := ⟨by decide +kernel, rfl⟩
theorem dMO_keep_116 : decode b_MO_keep 116 = .ok (.aload_n 0, 1) ∧ 116 + 1 = 117 := ⟨by decide +kernel, rfl⟩
theorem dMO_keep_117 : decode b_MO_keep 117 = .ok (.getfield 25, 3) ∧ 117 + 3 = 120 := ⟨by decide +kernel, rfl⟩
theorem dMO_keep_120 : decode b_MO_keep 120 = .ok (.bipush (100), 2) ∧ 120 + 2 = 122 := ⟨by decide +kernel, rfl⟩
theorem dMO_keep_122 : decode b_MO_keep 122 = .ok (.iload_n 1, 1) ∧ 122 + 1 = 123 := ⟨by decide +kernel, rfl⟩
theorem dMO_keep_123 : decode b_MO_keep 123 = .ok (.iadd, 1) ∧ 123 + 1 = 124 := ⟨by decide +kernel, rfl⟩
theorem dMO_keep_124 : decode b_MO_keep 124 = .ok (.iaload, 1) ∧ 124 + 1 = 125 := ⟨by decide +kernel, rfl⟩
theorem dMO_keep_125 : decode b_MO_keep 125 = .ok (.iastore, 1) ∧ 125 + 1 = 126 := ⟨by decide +kernel, rfl⟩
theorem dMO_keep_126 : decode b_MO_keep 126 = .ok (.aload_n 0, 1) ∧ 126 + 1 = 127 := ⟨by decide +kernel, rfl⟩
theorem dMO_keep_127 : decode b_MO_keep 127 = .ok (.getfield 28, 3) ∧ 127 + 3 = 130 := ⟨by decide +kernel, rfl⟩
theorem dMO_keep_130 : decode b_MO_keep 130 = .ok (.iload_n 1, 1) ∧ 130 + 1 = 131 := ⟨by decide +kernel, rfl⟩
theorem dMO_keep_131 : decode b_MO_keep 131 = .ok (.aload_n 0, 1) ∧ 131 + 1 = 132 := ⟨by decide +kernel, rfl⟩
theorem dMO_keep_132 : decode b_MO_keep 132 = .ok (.getfield 28, 3) ∧ 132 + 3 = 135 := ⟨by decide +kernel, rfl⟩
theorem dMO_keep_135 : decode b_MO_keep 135 = .ok (.bipush (100), 2) ∧ 135 + 2 = 137 := ⟨by decide +kernel, rfl⟩
theorem dMO_keep_137 : decode b_MO_keep 137 = .ok (.iload_n 1, 1) ∧ 137 + 1 = 138 := ⟨by decide +kernel, rfl⟩
theorem dMO_keep_138 : decode b_MO_keep 138 = .ok (.iadd, 1) ∧ 138 + 1 = 139 := ⟨by decide +kernel, rfl⟩
theorem dMO_keep_139 : decode b_MO_keep 139 = .ok (.iaload, 1) ∧ 139 + 1 = 140 := ⟨by decide +kernel, rfl⟩
theorem dMO_keep_140 : decode b_MO_keep 140 = .ok (.iastore, 1) ∧ 140 + 1 = 141 := ⟨by decide +kernel, rfl⟩
theorem dMO_keep_141 : decode b_MO_keep 141 = .ok (.aload_n 0, 1) ∧ 141 + 1 = 142 := ⟨by decide +kernel, rfl⟩
theorem dMO_keep_142 : decode b_MO_keep 142 = .ok (.getfield 31, 3) ∧ 142 + 3 = 145 := ⟨by decide +kernel, rfl⟩
theorem dMO_keep_145 : decode b_MO_keep 145 = .ok (.iload_n 1, 1) ∧ 145 + 1 = 146 := ⟨by decide +kernel, rfl⟩
theorem dMO_keep_146 : decode b_MO_keep 146 = .ok (.aload_n 0, 1) ∧ 146 + 1 = 147 := ⟨by decide +kernel, rfl⟩
theorem dMO_keep_147 : decode b_MO_keep 147 = .ok (.getfield 31, 3) ∧ 147 + 3 = 150 := ⟨by decide +kernel, rfl⟩
theorem dMO_keep_150 : decode b_MO_keep 150 = .ok (.bipush (100), 2) ∧ 150 + 2 = 152 := ⟨by decide +kernel, rfl⟩
theorem dMO_keep_152 : decode b_MO_keep 152 = .ok (.iload_n 1, 1) ∧ 152 + 1 = 153 := ⟨by decide +kernel, rfl⟩
theorem dMO_keep_153 : decode b_MO_keep 153 = .ok (.iadd, 1) ∧ 153 + 1 = 154 := ⟨by decide +kernel, rfl⟩
theorem dMO_keep_154 : decode b_MO_keep 154 = .ok (.iaload, 1) ∧ 154 + 1 = 155 := ⟨by decide +kernel, rfl⟩
theorem dMO_keep_155 : decode b_MO_keep 155 = .ok (.iastore, 1) ∧ 155 + 1 = 156 := ⟨by decide +kernel, rfl⟩
theorem dMO_keep_156 : decode b_MO_keep 156 = .ok (.aload_n 0, 1) ∧ 156 + 1 = 157 := ⟨by decide +kernel, rfl⟩
theorem dMO_keep_157 : decode b_MO_keep 157 = .ok (.getfield 34, 3) ∧ 157 + 3 = 160 := ⟨by decide +kernel, rfl⟩
theorem dMO_keep_160 : decode b_MO_keep 160 = .ok (.iload_n 1, 1) ∧ 160 + 1 = 161 := ⟨by decide +kernel, rfl⟩
theorem dMO_keep_161 : decode b_MO_keep 161 = .ok (.aload_n 0, 1) ∧ 161 + 1 = 162 := ⟨by decide +kernel, rfl⟩
theorem dMO_keep_162 : decode b_MO_keep 162 = .ok (.getfield 34, 3) ∧ 162 + 3 = 165 := ⟨by decide +kernel, rfl⟩
theorem dMO_keep_165 : decode b_MO_keep 165 = .ok (.bipush (100), 2) ∧ 165 + 2 = 167 := ⟨by decide +kernel, rfl⟩
theorem dMO_keep_167 : decode b_MO_keep 167 = .ok (.iload_n 1, 1) ∧ 167 + 1 = 168 := ⟨by decide +kernel, rfl⟩
theorem dMO_keep_168 : decode b_MO_keep 168 = .ok (.iadd, 1) ∧ 168 + 1 = 169 := ⟨by decide +kernel, rfl⟩
theorem dMO_keep_169 : decode b_MO_keep 169 = .ok (.iaload, 1) ∧ 169 + 1 = 170 := ⟨by decide +kernel, rfl⟩
theorem dMO_keep_170 : decode b_MO_keep 170 = .ok (.iastore, 1) ∧ 170 + 1 = 171 := ⟨by decide +kernel, rfl⟩
theorem dMO_keep_171 : decode b_MO_keep 171 = .ok (.aload_n 0, 1) ∧ 171 + 1 = 172 := ⟨by decide +kernel, rfl⟩
theorem dMO_keep_172 : decode b_MO_keep 172 = .ok (.getfield 37, 3) ∧ 172 + 3 = 175 := ⟨by decide +kernel, rfl⟩
theorem dMO_keep_175 : decode b_MO_keep 175 = .ok (.iload_n 1, 1) ∧ 175 + 1 = 176 := ⟨by decide +kernel, rfl⟩
theorem dMO_keep_176 : decode b_MO_keep 176 = .ok (.aload_n 0, 1) ∧ 176 + 1 = 177 := ⟨by decide +kernel, rfl⟩
theorem dMO_keep_177 : decode b_MO_keep 177 = .ok (.getfield 37, 3) ∧ 177 + 3 = 180 := ⟨by decide +kernel, rfl⟩
theorem dMO_keep_180 : decode b_MO_keep 180 = .ok (.bipush (100), 2) ∧ 180 + 2 = 182 := ⟨by decide +kernel, rfl⟩
theorem dMO_keep_182 : decode b_MO_keep 182 = .ok (.iload_n 1, 1) ∧ 182 + 1 = 183 := ⟨by decide +kernel, rfl⟩
theorem dMO_keep_183 : decode b_MO_keep 183 = .ok (.iadd, 1) ∧ 183 + 1 = 184 := ⟨by decide +kernel, rfl⟩
theorem dMO_keep_184 : decode b_MO_keep 184 = .ok (.iaload, 1) ∧ 184 + 1 = 185 := ⟨by decide +kernel, rfl⟩
theorem dMO_keep_185 : decode b_MO_keep 185 = .ok (.iastore, 1) ∧ 185 + 1 = 186 := ⟨by decide +kernel, rfl⟩
theorem dMO_keep_186 : decode b_MO_keep 186 = .ok (.aload_n 0, 1) ∧ 186 + 1 = 187 := ⟨by decide +kernel, rfl⟩
theorem dMO_keep_187 : decode b_MO_keep 187 = .ok (.getfield 40, 3) ∧ 187 + 3 = 190 := ⟨by decide +kernel, rfl⟩
theorem dMO_keep_190 : decode b_MO_keep 190 = .ok (.iload_n 1, 1) ∧ 190 + 1 = 191 := ⟨by decide +kernel, rfl⟩
theorem dMO_keep_191 : decode b_MO_keep 191 = .ok (.aload_n 0, 1) ∧ 191 + 1 = 192 := ⟨by decide +kernel, rfl⟩
theorem dMO_keep_192 : decode b_MO_keep 192 = .ok (.getfield 40, 3) ∧ 192 + 3 = 195 := ⟨by decide +kernel, rfl⟩
theorem dMO_keep_195 : decode b_MO_keep 195 = .ok (.bipush (100), 2) ∧ 195 + 2 = 197 := ⟨by decide +kernel, rfl⟩
theorem dMO_keep_197 : decode b_MO_keep 197 = .ok (.iload_n 1, 1) ∧ 197 + 1 = 198 := ⟨by decide +kernel, rfl⟩
theorem dMO_keep_198 : decode b_MO_keep 198 = .ok (.iadd, 1) ∧ 198 + 1 = 199 := ⟨by decide +kernel, rfl⟩
theorem dMO_keep_199 : decode b_MO_keep 199 = .ok (.iaload, 1) ∧ 199 + 1 = 200 := ⟨by decide +kernel, rfl⟩
theorem dMO_keep_200 : decode b_MO_keep 200 = .ok (.iastore, 1) ∧ 200 + 1 = 201 := ⟨by decide +kernel, rfl⟩
theorem dMO_keep_201 : decode b_MO_keep 201 = .ok (.iinc 1 (1), 3) ∧ 201 + 3 = 204 := ⟨by decide +kernel, rfl⟩
theorem dMO_keep_204 : decode b_MO_keep 204 = .ok (.goto (-99), 3) ∧ 204 + 3 = 207 ∧ ((204 : Nat) : Int) + (-99) = ((105 : Nat) : Int) := ⟨by decide +kernel, rfl, by decide⟩
theorem dMO_keep_207 : decode b_MO_keep 207 = .ok (.iconst 0, 1) ∧ 207 + 1 = 208 := ⟨by decide +kernel, rfl⟩
theorem dMO_keep_208 : decode b_MO_keep 208 = .ok (.istore_n 1, 1) ∧ 208 + 1 = 209 := ⟨by decide +kernel, rfl⟩
theorem dMO_keep_209 : decode b_MO_keep 209 = .ok (.iload_n 1, 1) ∧ 209 + 1 = 210 := ⟨by decide +kernel, rfl⟩
theorem dMO_keep_210 : decode b_MO_keep 210 = .ok (.sipush (1600), 3) ∧ 210 + 3 = 213 := ⟨by decide +kernel, rfl⟩
theorem dMO_keep_213 : decode b_MO_keep 213 = .ok (.if_icmp .ge (25), 3) ∧ 213 + 3 = 216 ∧ ((213 : Nat) : Int) + (25) = ((238 : Nat) : Int) := ⟨by decide +kernel, rfl, by decide⟩
theorem dMO_keep_216 : decode b_MO_keep 216 = .ok (.aload_n 0, 1) ∧ 216 + 1 = 217 := ⟨by decide +kernel, rfl⟩
theorem dMO_keep_217 : decode b_MO_keep 217 = .ok (.getfield 43, 3) ∧ 217 + 3 = 220 := ⟨by decide +kernel, rfl⟩
theorem dMO_keep_220 : decode b_MO_keep 220 = .ok (.iload_n 1, 1) ∧ 220 + 1 = 221 := ⟨by decide +kernel, rfl⟩
theorem dMO_keep_221 : decode b_MO_keep 221 = .ok (.aload_n 0, 1) ∧ 221 + 1 = 222 := ⟨by decide +kernel, rfl⟩
theorem dMO_keep_222 : decode b_MO_keep 222 = .ok (.getfield 43, 3) ∧ 222 + 3 = 225 := ⟨by decide +kernel, rfl⟩
theorem dMO_keep_225 : decode b_MO_keep 225 = .ok (.sipush (1600), 3) ∧ 225 + 3 = 228 := ⟨by decide +kernel, rfl⟩
theorem dMO_keep_228 : decode b_MO_keep 228 = .ok (.iload_n 1, 1) ∧ 228 + 1 = 229 := ⟨by decide +kernel, rfl⟩
theorem dMO_keep_229 : decode b_MO_keep 229 = .ok (.iadd, 1) ∧ 229 + 1 = 230 := ⟨by decide +kernel, rfl⟩
theorem dMO_keep_230 : decode b_MO_keep 230 = .ok (.iaload, 1) ∧ 230 + 1 = 231 := ⟨by decide +kernel, rfl⟩
theorem dMO_keep_231 : decode b_MO_keep 231 = .ok (.iastore, 1) ∧ 231 + 1 = 232 := ⟨by decide +kernel, rfl⟩
theorem dMO_keep_232 : decode b_MO_keep 232 = .ok (.iinc 1 (1), 3) ∧ 232 + 3 = 235 := ⟨by decide +kernel, rfl⟩
theorem dMO_keep_235 : decode b_MO_keep 235 = .ok (.goto (-26), 3) ∧ 235 + 3 = 238 ∧ ((235 : Nat) : Int) + (-26) = ((209 : Nat) : Int) := ⟨by decide +kernel, rfl, by decide⟩
theorem dMO_keep_238 : decode b_MO_keep 238 = .ok (.iconst 0, 1) ∧ 238 + 1 = 239 := ⟨by decide +kernel, rfl⟩
theorem dMO_keep_239 : decode b_MO_keep 239 = .ok (.istore_n 1, 1) ∧ 239 + 1 = 240 := ⟨by decide +kernel, rfl⟩
theorem dMO_keep_240 : decode b_MO_keep 240 = .ok (.iload_n 1, 1) ∧ 240 + 1 = 241 := ⟨by decide +kernel, rfl⟩
theorem dMO_keep_241 : decode b_MO_keep 241 = .ok (.sipush (300), 3) ∧ 241 + 3 = 244 := ⟨by decide +kernel, rfl⟩
theorem dMO_keep_244 : decode b_MO_keep 244 = .ok (.if_icmp .ge (89), 3) ∧ 244 + 3 = 247 ∧ ((244 : Nat) : Int) + (89) = ((333 : Nat) : Int) := ⟨by decide +kernel, rfl, by decide⟩
theorem dMO_keep_247 : decode b_MO_keep 247 = .ok (.aload_n 0, 1) ∧ 247 + 1 = 248 := ⟨by decide +kernel, rfl⟩
theorem dMO_keep_248 : decode b_MO_keep 248 = .ok (.getfield 49, 3) ∧ 248 + 3 = 251 := ⟨by decide +kernel, rfl⟩
theorem dMO_keep_251 : decode b_MO_keep 251 = .ok (.iload_n 1, 1) ∧ 251 + 1 = 252 := ⟨by decide +kernel, rfl⟩
theorem dMO_keep_252 : decode b_MO_keep 252 = .ok (.aload_n 0, 1) ∧ 252 + 1 = 253 := ⟨by decide +kernel, rfl⟩
theorem dMO_keep_253 : decode b_MO_keep 253 = .ok (.getfield 49, 3) ∧ 253 + 3 = 256 := ⟨by decide +kernel, rfl⟩
theorem dMO_keep_256 : decode b_MO_keep 256 = .ok (.sipush (300), 3) ∧ 256 + 3 = 259 := ⟨by decide +kernel, rfl⟩
theorem dMO_keep_259 : decode b_MO_keep 259 = .ok (.iload_n 1, 1) ∧ 259 + 1 = 260 := ⟨by decide +kernel, rfl⟩
theorem dMO_keep_260 : decode b_MO_keep 260 = .ok (.iadd, 1) ∧ 260 + 1 = 261 := ⟨by decide +kernel, rfl⟩
theorem dMO_keep_261 : decode b_MO_keep 261 = .ok (.iaload, 1) ∧ 261 + 1 = 262 := ⟨by decide +kernel, rfl⟩
theorem dMO_keep_262 : decode b_MO_keep 262 = .ok (.iastore, 1) ∧ 262 + 1 = 263 := ⟨by decide +kernel, rfl⟩
theorem dMO_keep_263 : decode b_MO_keep 263 = .ok (.aload_n 0, 1) ∧ 263 + 1 = 264 := ⟨by decide +kernel, rfl⟩
theorem dMO_keep_264 : decode b_MO_keep 264 = .ok (.getfield 52, 3) ∧ 264 + 3 = 267 := ⟨by decide +kernel, rfl⟩
theorem dMO_keep_267 : decode b_MO_keep 267 = .ok (.iload_n 1, 1) ∧ 267 + 1 = 268 := ⟨by decide +kernel, rfl⟩
theorem dMO_keep_268 : decode b_MO_keep 268 = .ok (.aload_n 0, 1) ∧ 268 + 1 = 269 := ⟨by decide +kernel, rfl⟩
theorem dMO_keep_269 : decode b_MO_keep 269 = .ok (.getfield 52, 3) ∧ 269 + 3 = 272 := ⟨by decide +kernel, rfl⟩
theorem dMO_keep_272 : decode b_MO_keep 272 = .ok (.sipush (300), 3) ∧ 272 + 3 = 275 := ⟨by decide +kernel, rfl⟩
theorem dMO_keep_275 : decode b_MO_keep 275 = .ok (.iload_n 1, 1) ∧ 275 + 1 = 276 := ⟨by decide +kernel, rfl⟩
theorem dMO_keep_276 : decode b_MO_keep 276 = .ok (.iadd, 1) ∧ 276 + 1 = 277 := ⟨by decide +kernel, rfl⟩
theorem dMO_keep_277 : decode b_MO_keep 277 = .ok (.iaload, 1) ∧ 277 + 1 = 278 := ⟨by decide +kernel, rfl⟩
theorem dMO_keep_278 : decode b_MO_keep 278 = .ok (.iastore, 1) ∧ 278 + 1 = 279 := ⟨by decide +kernel, rfl⟩
theorem dMO_keep_279 : decode b_MO_keep 279 = .ok (.aload_n 0, 1) ∧ 279 + 1 = 280 := ⟨by decide +kernel, rfl⟩
theorem dMO_keep_280 : decode b_MO_keep 280 = .ok (.getfield 55, 3) ∧ 280 + 3 = 283 := ⟨by decide +kernel, rfl⟩
theorem dMO_keep_283 : decode b_MO_keep 283 = .ok (.iload_n 1, 1) ∧ 283 + 1 = 284 := ⟨by decide +kernel, rfl⟩
theorem dMO_keep_284 : decode b_MO_keep 284 = .ok (.aload_n 0, 1) ∧ 284 + 1 = 285 := ⟨by decide +kernel, rfl⟩
theorem dMO_keep_285 : decode b_MO_keep 285 = .ok (.getfield 55, 3) ∧ 285 + 3 = 288 := ⟨by decide +kernel, rfl⟩
theorem dMO_keep_288 : decode b_MO_keep 288 = .ok (.sipush (300), 3) ∧ 288 + 3 = 291 := ⟨by decide +kernel, rfl⟩
theorem dMO_keep_291 : decode b_MO_keep 291 = .ok (.iload_n 1, 1) ∧ 291 + 1 = 292 := ⟨by decide +kernel, rfl⟩
theorem dMO_keep_292 : decode b_MO_keep 292 = .ok (.iadd, 1) ∧ 292 + 1 = 293 := ⟨by decide +kernel, rfl⟩
theorem dMO_keep_293 : decode b_MO_keep 293 = .ok (.iaload, 1) ∧ 293 + 1 = 294 := ⟨by decide +kernel, rfl⟩
theorem dMO_keep_294 : decode b_MO_keep 294 = .ok (.iastore, 1) ∧ 294 + 1 = 295 := ⟨by decide +kernel, rfl⟩
theorem dMO_keep_295 : decode b_MO_keep 295 = .ok (.aload_n 0, 1) ∧ 295 + 1 = 296 := ⟨by decide +kernel, rfl⟩
theorem dMO_keep_296 : decode b_MO_keep 296 = .ok (.getfield 58, 3) ∧ 296 + 3 = 299 := ⟨by decide +kernel, rfl⟩
theorem dMO_keep_299 : decode b_MO_keep 299 = .ok (.iload_n 1, 1) ∧ 299 + 1 = 300 := ⟨by decide +kernel, rfl⟩
theorem dMO_keep_300 : decode b_MO_keep 300 = .ok (.aload_n 0, 1) ∧ 300 + 1 = 301 := ⟨by decide +kernel, rfl⟩
theorem dMO_keep_301 : decode b_MO_keep 301 = .ok (.getfield 58, 3) ∧ 301 + 3 = 304 := ⟨by decide +kernel, rfl⟩
theorem dMO_keep_304 : decode b_MO_keep 304 = .ok (.sipush (300), 3) ∧ 304 + 3 = 307 := ⟨by decide +kernel, rfl⟩
theorem dMO_keep_307 : decode b_MO_keep 307 = .ok (.iload_n 1, 1) ∧ 307 + 1 = 308 := ⟨by decide +kernel, rfl⟩
theorem dMO_keep_308 : decode b_MO_keep 308 = .ok (.iadd, 1) ∧ 308 + 1 = 309 := ⟨by decide +kernel, rfl⟩
theorem dMO_keep_309 : decode b_MO_keep 309 = .ok (.iaload, 1) ∧ 309 + 1 = 310 := ⟨by decide +kernel, rfl⟩
theorem dMO_keep_310 : decode b_MO_keep 310 = .ok (.iastore, 1) ∧ 310 + 1 = 311 := ⟨by decide +kernel, rfl⟩
theorem dMO_keep_311 : decode b_MO_keep 311 = .ok (.aload_n 0, 1) ∧ 311 + 1 = 312 := ⟨by decide +kernel, rfl⟩
theorem dMO_keep_312 : decode b_MO_keep 312 = .ok (.getfield 61, 3) ∧ 312 + 3 = 315 := ⟨by decide +kernel, rfl⟩
theorem dMO_keep_315 : decode b_MO_keep 315 = .ok (.iload_n 1, 1) ∧ 315 + 1 = 316 := ⟨by decide +kernel, rfl⟩
theorem dMO_keep_316 : decode b_MO_keep 316 = .ok (.aload_n 0, 1) ∧ 316 + 1 = 317 := ⟨by decide +kernel, rfl⟩
theorem dMO_keep_317 : decode b_MO_keep 317 = .ok (.getfield 61, 3) ∧ 317 + 3 = 320 := ⟨by decide +kernel, rfl⟩
theorem dMO_keep_320 : decode b_MO_keep 320 = .ok (.sipush (300), 3) ∧ 320 + 3 = 323 := ⟨by decide +kernel, rfl⟩
theorem dMO_keep_323 : decode b_MO_keep 323 = .ok (.iload_n 1, 1) ∧ 323 + 1 = 324 := ⟨by decide +kernel, rfl⟩
theorem dMO_keep_324 : decode b_MO_keep 324 = .ok (.iadd, 1) ∧ 324 + 1 = 325 := ⟨by decide +kernel, rfl⟩
theorem dMO_keep_325 : decode b_MO_keep 325 = .ok (.iaload, 1) ∧ 325 + 1 = 326 := ⟨by decide +kernel, rfl⟩
theorem dMO_keep_326 : decode b_MO_keep 326 = .ok (.iastore, 1) ∧ 326 + 1 = 327 := ⟨by decide +kernel, rfl⟩
theorem dMO_keep_327 : decode b_MO_keep 327 = .ok (.iinc 1 (1), 3) ∧ 327 + 3 = 330 := ⟨by decide +kernel, rfl⟩
theorem dMO_keep_330 : decode b_MO_keep 330 = .ok (.goto (-90), 3) ∧ 330 + 3 = 333 ∧ ((330 : Nat) : Int) + (-90) = ((240 : Nat) : Int) := ⟨by decide +kernel, rfl, by decide⟩
theorem dMO_keep_333 : decode b_MO_keep 333 = .ok (.aload_n 0, 1) ∧ 333 + 1 = 334 := ⟨by decide +kernel, rfl⟩
theorem dMO_keep_334 : decode b_MO_keep 334 = .ok (.getfield 22, 3) ∧ 334 + 3 = 337 := ⟨by decide +kernel, rfl⟩
theorem dMO_keep_337 : decode b_MO_keep 337 = .ok (.iconst 0, 1) ∧ 337 + 1 = 338 := ⟨by decide +kernel, rfl⟩
theorem dMO_keep_338 : decode b_MO_keep 338 = .ok (.aload_n 0, 1) ∧ 338 + 1 = 339 := ⟨by decide +kernel, rfl⟩
theorem dMO_keep_339 : decode b_MO_keep 339 = .ok (.getfield 22, 3) ∧ 339 + 3 = 342 := ⟨by decide +kernel, rfl⟩
theorem dMO_keep_342 : decode b_MO_keep 342 = .ok (.iconst 1, 1) ∧ 342 + 1 = 343 := ⟨by decide +kernel, rfl⟩
theorem dMO_keep_343 : decode b_MO_keep 343 = .ok (.iaload, 1) ∧ 343 + 1 = 344 := ⟨by decide +kernel, rfl⟩
theorem dMO_keep_344 : decode b_MO_keep 344 = .ok (.iastore, 1) ∧ 344 + 1 = 345 := ⟨by decide +kernel, rfl⟩
theorem dMO_keep_345 : decode b_MO_keep 345 = .ok (.aload_n 0, 1) ∧ 345 + 1 = 346 := ⟨by decide +kernel, rfl⟩
theorem dMO_keep_346 : decode b_MO_keep 346 = .ok (.getfield 46, 3) ∧ 346 + 3 = 349 := ⟨by decide +kernel, rfl⟩
theorem dMO_keep_349 : decode b_MO_keep 349 = .ok (.iconst 0, 1) ∧ 349 + 1 = 350 := ⟨by decide +kernel, rfl⟩
theorem dMO_keep_350 : decode b_MO_keep 350 = .ok (.aload_n 0, 1) ∧ 350 + 1 = 351 := ⟨by decide +kernel, rfl⟩
theorem dMO_keep_351 : decode b_MO_keep 351 = .ok (.getfield 46, 3) ∧ 351 + 3 = 354 := ⟨by decide +kernel, rfl⟩
theorem dMO_keep_354 : decode b_MO_keep 354 = .ok (.iconst 1, 1) ∧ 354 + 1 = 355 := ⟨by decide +kernel, rfl⟩
theorem dMO_keep_355 : decode b_MO_keep 355 = .ok (.iaload, 1) ∧ 355 + 1 = 356 := ⟨by decide +kernel, rfl⟩
theorem dMO_keep_356 : decode b_MO_keep 356 = .ok (.iastore, 1) ∧ 356 + 1 = 357 := ⟨by decide +kernel, rfl⟩
theorem dMO_keep_357 : decode b_MO_keep 357 = .ok (.aload_n 0, 1) ∧ 357 + 1 = 358 := ⟨by decide +kernel, rfl⟩
theorem dMO_keep_358 : decode b_MO_keep 358 = .ok (.getfield 64, 3) ∧ 358 + 3 = 361 := ⟨by decide +kernel, rfl⟩
theorem dMO_keep_361 : decode b_MO_keep 361 = .ok (.iconst 0, 1) ∧ 361 + 1 = 362 := ⟨by decide +kernel, rfl⟩
theorem dMO_keep_362 : decode b_MO_keep 362 = .ok (.aload_n 0, 1) ∧ 362 + 1 = 363 := ⟨by decide +kernel, rfl⟩
theorem dMO_keep_363 : decode b_MO_keep 363 = .ok (.getfield 64, 3) ∧ 363 + 3 = 366 := ⟨by decide +kernel, rfl⟩
theorem dMO_keep_366 : decode b_MO_keep 366 = .ok (.iconst 1, 1) ∧ 366 + 1 = 367 := ⟨by decide +kernel, rfl⟩
theorem dMO_keep_367 : decode b_MO_keep 367 = .ok (.iaload, 1) ∧ 367 + 1 = 368 := ⟨by decide +kernel, rfl⟩
theorem dMO_keep_368 : decode b_MO_keep 368 = .ok (.iastore, 1) ∧ 368 + 1 = 369 := ⟨by decide +kernel, rfl⟩
theorem dMO_keep_369 : decode b_MO_keep 369 = .ok (.aload_n 0, 1) ∧ 369 + 1 = 370 := ⟨by decide +kernel, rfl⟩
theorem dMO_keep_370 : decode b_MO_keep 370 = .ok (.iconst 0, 1) ∧ 370 + 1 = 371 := ⟨by decide +kernel, rfl⟩
theorem dMO_keep_371 : decode b_MO_keep 371 = .ok (.putfield 134, 3) ∧ 371 + 3 = 374 := ⟨by decide +kernel, rfl⟩
theorem dMO_keep_374 : decode b_MO_keep 374 = .ok (.return_, 1) ∧ 374 + 1 = 375 := ⟨by decide +kernel, rfl⟩
theorem dMO_section_0 : decode b_MO_section 0 = .ok (.iload_n 1, 1) ∧ 0 + 1 = 1 := ⟨by decide +kernel, rfl⟩
theorem dMO_section_1 : decode b_MO_section 1 = .ok (.ifCond .lt (8), 3) ∧ 1 + 3 = 4 ∧ ((1 : Nat) : Int) + (8) = ((9 : Nat) : Int) := ⟨by decide +kernel, rfl, by decide⟩
theorem dMO_section_4 : decode b_MO_section 4 = .ok (.iload_n 1, 1) ∧ 4 + 1 = 5 := ⟨by decide +kernel, rfl⟩
theorem dMO_section_5 : decode b_MO_section 5 = .ok (.iconst 3, 1) ∧ 5 + 1 = 6 := ⟨by decide +kernel, rfl⟩
theorem dMO_section_6 : decode b_MO_section 6 = .ok (.if_icmp .le (5), 3) ∧ 6 + 3 = 9 ∧ ((6 : Nat) : Int) + (5) = ((11 : Nat) : Int) := ⟨by decide +kernel, rfl, by decide⟩
theorem dMO_section_9 : decode b_MO_section 9 = .ok (.iconst (-1), 1) ∧ 9 + 1 = 10 := ⟨by decide +kernel, rfl⟩
theorem dMO_section_10 : decode b_MO_section 10 = .ok (.ireturn, 1) ∧ 10 + 1 = 11 := ⟨by decide +kernel, rfl⟩
theorem dMO_section_11 : decode b_MO_section 11 = .ok (.iload_n 2, 1) ∧ 11 + 1 = 12 := ⟨by decide +kernel, rfl⟩
theorem dMO_section_12 : decode b_MO_section 12 = .ok (.ifCond .ne (14), 3) ∧ 12 + 3 = 15 ∧ ((12 : Nat) : Int) + (14) = ((26 : Nat) : Int) := ⟨by decide +kernel, rfl, by decide⟩
theorem dMO_section_15 : decode b_MO_section 15 = .ok (.aload_n 0, 1) ∧ 15 + 1 = 16 := ⟨by decide +kernel, rfl⟩
theorem dMO_section_16 : decode b_MO_section 16 = .ok (.getfield 13, 3) ∧ 16 + 3 = 19 := ⟨by decide +kernel, rfl⟩
theorem dMO_section_19 : decode b_MO_section 19 = .ok (.iconst 4, 1) ∧ 19 + 1 = 20 := ⟨by decide +kernel, rfl⟩
theorem dMO_section_20 : decode b_MO_section 20 = .ok (.iload_n 1, 1) ∧ 20 + 1 = 21 := ⟨by decide +kernel, rfl⟩
theorem dMO_section_21 : decode b_MO_section 21 = .ok (.iadd, 1) ∧ 21 + 1 = 22 := ⟨by decide +kernel, rfl⟩
theorem dMO_section_22 : decode b_MO_section 22 = .ok (.iaload, 1) ∧ 22 + 1 = 23 := ⟨by decide +kernel, rfl⟩
theorem dMO_section_23 : decode b_MO_section 23 = .ok (.goto (20), 3) ∧ 23 + 3 = 26 ∧ ((23 : Nat) : Int) + (20) = ((43 : Nat) : Int) := ⟨by decide +kernel, rfl, by decide⟩
theorem dMO_section_26 : decode b_MO_section 26 = .ok (.iload_n 2, 1) ∧ 26 + 1 = 27 := ⟨by decide +kernel, rfl⟩
theorem dMO_section_27 : decode b_MO_section 27 = .ok (.iconst 1, 1) ∧ 27 + 1 = 28 := ⟨by decide +kernel, rfl⟩
theorem dMO_section_28 : decode b_MO_section 28 = .ok (.if_icmp .ne (14), 3) ∧ 28 + 3 = 31 ∧ ((28 : Nat) : Int) + (14) = ((42 : Nat) : Int) := ⟨by decide +kernel, rfl, by decide⟩
theorem dMO_section_31 : decode b_MO_section 31 = .ok (.aload_n 0, 1) ∧ 31 + 1 = 32 := ⟨by decide +kernel, rfl⟩
theorem dMO_section_32 : decode b_MO_section 32 = .ok (.getfield 16, 3) ∧ 32 + 3 = 35 := ⟨by decide +kernel, rfl⟩
theorem dMO_section_35 : decode b_MO_section 35 = .ok (.iconst 4, 1) ∧ 35 + 1 = 36 := ⟨by decide +kernel, rfl⟩
theorem dMO_section_36 : decode b_MO_section 36 = .ok (.iload_n 1, 1) ∧ 36 + 1 = 37 := ⟨by decide +kernel, rfl⟩
theorem dMO_section_37 : decode b_MO_section 37 = .ok (.iadd, 1) ∧ 37 + 1 = 38 := ⟨by decide +kernel, rfl⟩
theorem dMO_section_38 : decode b_MO_section 38 = .ok (.iaload, 1) ∧ 38 + 1 = 39 := ⟨by decide +kernel, rfl⟩
theorem dMO_section_39 : decode b_MO_section 39 = .ok (.goto (4), 3) ∧ 39 + 3 = 42 ∧ ((39 : Nat) : Int) + (4) = ((43 : Nat) : Int) := ⟨by decide +kernel, rfl, by decide⟩
theorem dMO_section_42 : decode b_MO_section 42 = .ok (.iconst (-1), 1) ∧ 42 + 1 = 43 := ⟨by decide +kernel, rfl⟩
theorem dMO_section_43 : decode b_MO_section 43 = .ok (.ireturn, 1) ∧ 43 + 1 = 44 := ⟨by decide +kernel, rfl⟩
theorem dMO_at_0 : decode b_MO_at 0 = .ok (.iload_n 1, 1) ∧ 0 + 1 = 1 := ⟨by decide +kernel, rfl⟩
theorem dMO_at_1 : decode b_MO_at 1 = .ok (.ifCond .lt (43), 3) ∧ 1 + 3 = 4 ∧ ((1 : Nat) : Int) + (43) = ((44 : Nat) : Int) := ⟨by decide +kernel, rfl, by decide⟩
theorem dMO_at_4 : decode b_MO_at 4 = .ok (.iload_n 1, 1) ∧ 4 + 1 = 5 := ⟨by decide +kernel, rfl⟩
theorem dMO_at_5 : decode b_MO_at 5 = .ok (.iconst 3, 1) ∧ 5 + 1 = 6 := ⟨by decide +kernel, rfl⟩
theorem dMO_at_6 : decode b_MO_at 6 = .ok (.if_icmp .ge (38), 3) ∧ 6 + 3 = 9 ∧ ((6 : Nat) : Int) + (38) = ((44 : Nat) : Int) := ⟨by decide +kernel, rfl, by decide⟩
theorem dMO_at_9 : decode b_MO_at 9 = .ok (.iload_n 2, 1) ∧ 9 + 1 = 10 := ⟨by decide +kernel, rfl⟩
theorem dMO_at_10 : decode b_MO_at 10 = .ok (.ifCond .lt (34), 3) ∧ 10 + 3 = 13 ∧ ((10 : Nat) : Int) + (34) = ((44 : Nat) : Int) := ⟨by decide +kernel, rfl, by decide⟩
theorem dMO_at_13 : decode b_MO_at 13 = .ok (.iload_n 2, 1) ∧ 13 + 1 = 14 := ⟨by decide +kernel, rfl⟩
theorem dMO_at_14 : decode b_MO_at 14 = .ok (.aload_n 0, 1) ∧ 14 + 1 = 15 := ⟨by decide +kernel, rfl⟩
theorem dMO_at_15 : decode b_MO_at 15 = .ok (.getfield 13, 3) ∧ 15 + 3 = 18 := ⟨by decide +kernel, rfl⟩
theorem dMO_at_18 : decode b_MO_at 18 = .ok (.iconst 4, 1) ∧ 18 + 1 = 19 := ⟨by decide +kernel, rfl⟩
theorem dMO_at_19 : decode b_MO_at 19 = .ok (.iload_n 1, 1) ∧ 19 + 1 = 20 := ⟨by decide +kernel, rfl⟩
theorem dMO_at_20 : decode b_MO_at 20 = .ok (.iadd, 1) ∧ 20 + 1 = 21 := ⟨by decide +kernel, rfl⟩
theorem dMO_at_21 : decode b_MO_at 21 = .ok (.iaload, 1) ∧ 21 + 1 = 22 := ⟨by decide +kernel, rfl⟩
theorem dMO_at_22 : decode b_MO_at 22 = .ok (.if_icmp .ge (22), 3) ∧ 22 + 3 = 25 ∧ ((22 : Nat) : Int) + (22) = ((44 : Nat) : Int) := ⟨by decide +kernel, rfl, by decide⟩
theorem dMO_at_25 : decode b_MO_at 25 = .ok (.aload_n 0, 1) ∧ 25 + 1 = 26 := ⟨by decide +kernel, rfl⟩
theorem dMO_at_26 : decode b_MO_at 26 = .ok (.getfield 7, 3) ∧ 26 + 3 = 29 := ⟨by decide +kernel, rfl⟩
theorem dMO_at_29 : decode b_MO_at 29 = .ok (.sipush (6144), 3) ∧ 29 + 3 = 32 := ⟨by decide +kernel, rfl⟩
theorem dMO_at_32 : decode b_MO_at 32 = .ok (.sipush (2048), 3) ∧ 32 + 3 = 35 := ⟨by decide +kernel, rfl⟩
theorem dMO_at_35 : decode b_MO_at 35 = .ok (.iload_n 1, 1) ∧ 35 + 1 = 36 := ⟨by decide +kernel, rfl⟩
theorem dMO_at_36 : decode b_MO_at 36 = .ok (.imul, 1) ∧ 36 + 1 = 37 := ⟨by decide +kernel, rfl⟩
theorem dMO_at_37 : decode b_MO_at 37 = .ok (.iadd, 1) ∧ 37 + 1 = 38 := ⟨by decide +kernel, rfl⟩
theorem dMO_at_38 : decode b_MO_at 38 = .ok (.iload_n 2, 1) ∧ 38 + 1 = 39 := ⟨by decide +kernel, rfl⟩
theorem dMO_at_39 : decode b_MO_at 39 = .ok (.iadd, 1) ∧ 39 + 1 = 40 := ⟨by decide +kernel, rfl⟩
theorem dMO_at_40 : decode b_MO_at 40 = .ok (.iaload, 1) ∧ 40 + 1 = 41 := ⟨by decide +kernel, rfl⟩
theorem dMO_at_41 : decode b_MO_at 41 = .ok (.goto (4), 3) ∧ 41 + 3 = 44 ∧ ((41 : Nat) : Int) + (4) = ((45 : Nat) : Int) := ⟨by decide +kernel, rfl, by decide⟩
theorem dMO_at_44 : decode b_MO_at 44 = .ok (.iconst (-1), 1) ∧ 44 + 1 = 45 := ⟨by decide +kernel, rfl⟩
theorem dMO_at_45 : decode b_MO_at 45 = .ok (.ireturn, 1) ∧ 45 + 1 = 46 := ⟨by decide +kernel, rfl⟩
theorem dMO_count_0 : decode b_MO_count 0 = .ok (.iconst 0, 1) ∧ 0 + 1 = 1 := ⟨by decide +kernel, rfl⟩
theorem dMO_count_1 : decode b_MO_count 1 = .ok (.istore_n 2, 1) ∧ 1 + 1 = 2 := ⟨by decide +kernel, rfl⟩
theorem dMO_count_2 : decode b_MO_count 2 = .ok (.iconst 0, 1) ∧ 2 + 1 = 3 := ⟨by decide +kernel, rfl⟩
theorem dMO_count_3 : decode b_MO_count 3 = .ok (.istore_n 3, 1) ∧ 3 + 1 = 4 := ⟨by decide +kernel, rfl⟩
theorem dMO_count_4 : decode b_MO_count 4 = .ok (.iload_n 3, 1) ∧ 4 + 1 = 5 := ⟨by decide +kernel, rfl⟩
theorem dMO_count_5 : decode b_MO_count 5 = .ok (.aload_n 0, 1) ∧ 5 + 1 = 6 := ⟨by decide +kernel, rfl⟩
theorem dMO_count_6 : decode b_MO_count 6 = .ok (.getfield 22, 3) ∧ 6 + 3 = 9 := ⟨by decide +kernel, rfl⟩
theorem dMO_count_9 : decode b_MO_count 9 = .ok (.iconst 1, 1) ∧ 9 + 1 = 10 := ⟨by decide +kernel, rfl⟩
theorem dMO_count_10 : decode b_MO_count 10 = .ok (.iaload, 1) ∧ 10 + 1 = 11 := ⟨by decide +kernel, rfl⟩
theorem dMO_count_11 : decode b_MO_count 11 = .ok (.if_icmp .ge (42), 3) ∧ 11 + 3 = 14 ∧ ((11 : Nat) : Int) + (42) = ((53 : Nat) : Int) := ⟨by decide +kernel, rfl, by decide⟩
theorem dMO_count_14 : decode b_MO_count 14 = .ok (.iload_n 2, 1) ∧ 14 + 1 = 15 := ⟨by decide +kernel, rfl⟩
theorem dMO_count_15 : decode b_MO_count 15 = .ok (.aload_n 0, 1) ∧ 15 + 1 = 16 := ⟨by decide +kernel, rfl⟩
theorem dMO_count_16 : decode b_MO_count 16 = .ok (.getfield 7, 3) ∧ 16 + 3 = 19 := ⟨by decide +kernel, rfl⟩
theorem dMO_count_19 : decode b_MO_count 19 = .ok (.sipush (6144), 3) ∧ 19 + 3 = 22 := ⟨by decide +kernel, rfl⟩
theorem dMO_count_22 : decode b_MO_count 22 = .ok (.aload_n 0, 1) ∧ 22 + 1 = 23 := ⟨by decide +kernel, rfl⟩
theorem dMO_count_23 : decode b_MO_count 23 = .ok (.getfield 19, 3) ∧ 23 + 3 = 26 := ⟨by decide +kernel, rfl⟩
theorem dMO_count_26 : decode b_MO_count 26 = .ok (.sipush (1024), 3) ∧ 26 + 3 = 29 := ⟨by decide +kernel, rfl⟩
theorem dMO_count_29 : decode b_MO_count 29 = .ok (.iload_n 3, 1) ∧ 29 + 1 = 30 := ⟨by decide +kernel, rfl⟩
theorem dMO_count_30 : decode b_MO_count 30 = .ok (.iadd, 1) ∧ 30 + 1 = 31 := ⟨by decide +kernel, rfl⟩
theorem dMO_count_31 : decode b_MO_count 31 = .ok (.iaload, 1) ∧ 31 + 1 = 32 := ⟨by decide +kernel, rfl⟩
theorem dMO_count_32 : decode b_MO_count 32 = .ok (.iadd, 1) ∧ 32 + 1 = 33 := ⟨by decide +kernel, rfl⟩
theorem dMO_count_33 : decode b_MO_count 33 = .ok (.iaload, 1) ∧ 33 + 1 = 34 := ⟨by decide +kernel, rfl⟩
theorem dMO_count_34 : decode b_MO_count 34 = .ok (.invokestatic 213, 3) ∧ 34 + 3 = 37 := ⟨by decide +kernel, rfl⟩
theorem dMO_count_37 : decode b_MO_count 37 = .ok (.ifCond .eq (7), 3) ∧ 37 + 3 = 40 ∧ ((37 : Nat) : Int) + (7) = ((44 : Nat) : Int) := ⟨by decide +kernel, rfl, by decide⟩
theorem dMO_count_40 : decode b_MO_count 40 = .ok (.iconst 1, 1) ∧ 40 + 1 = 41 := ⟨by decide +kernel, rfl⟩
theorem dMO_count_41 : decode b_MO_count 41 = .ok (.goto (4), 3) ∧ 41 + 3 = 44 ∧ ((41 : Nat) : Int) + (4) = ((45 : Nat) : Int) := ⟨by decide +kernel, rfl, by decide⟩
theorem dMO_count_44 : decode b_MO_count 44 = .ok (.iconst 0, 1) ∧ 44 + 1 = 45 := ⟨by decide +kernel, rfl⟩
theorem dMO_count_45 : decode b_MO_count 45 = .ok (.iadd, 1) ∧ 45 + 1 = 46 := ⟨by decide +kernel, rfl⟩
theorem dMO_count_46 : decode b_MO_count 46 = .ok (.istore_n 2, 1) ∧ 46 + 1 = 47 := ⟨by decide +kernel, rfl⟩
theorem dMO_count_47 : decode b_MO_count 47 = .ok (.iinc 3 (1), 3) ∧ 47 + 3 = 50 := ⟨by decide +kernel, rfl⟩
theorem dMO_count_50 : decode b_MO_count 50 = .ok (.goto (-46), 3) ∧ 50 + 3 = 53 ∧ ((50 : Nat) : Int) + (-46) = ((4 : Nat) : Int) := ⟨by decide +kernel, rfl, by decide⟩
theorem dMO_count_53 : decode b_MO_count 53 = .ok (.iload_n 1, 1) ∧ 53 + 1 = 54 := ⟨by decide +kernel, rfl⟩
theorem dMO_count_54 : decode b_MO_count 54 = .ok (.ifCond .ne (12), 3) ∧ 54 + 3 = 57 ∧ ((54 : Nat) : Int) + (12) = ((66 : Nat) : Int) := ⟨by decide +kernel, rfl, by decide⟩
theorem dMO_count_57 : decode b_MO_count 57 = .ok (.aload_n 0, 1) ∧ 57 + 1 = 58 := ⟨by decide +kernel, rfl⟩
theorem dMO_count_58 : decode b_MO_count 58 = .ok (.getfield 22, 3) ∧ 58 + 3 = 61 := ⟨by decide +kernel, rfl⟩
theorem dMO_count_61 : decode b_MO_count 61 = .ok (.iconst 1, 1) ∧ 61 + 1 = 62 := ⟨by decide +kernel, rfl⟩
theorem dMO_count_62 : decode b_MO_count 62 = .ok (.iaload, 1) ∧ 62 + 1 = 63 := ⟨by decide +kernel, rfl⟩
theorem dMO_count_63 : decode b_MO_count 63 = .ok (.goto (41), 3) ∧ 63 + 3 = 66 ∧ ((63 : Nat) : Int) + (41) = ((104 : Nat) : Int) := ⟨by decide +kernel, rfl, by decide⟩
theorem dMO_count_66 : decode b_MO_count 66 = .ok (.iload_n 1, 1) ∧ 66 + 1 = 67 := ⟨by decide +kernel, rfl⟩
theorem dMO_count_67 : decode b_MO_count 67 = .ok (.iconst 1, 1) ∧ 67 + 1 = 68 := ⟨by decide +kernel, rfl⟩
theorem dMO_count_68 : decode b_MO_count 68 = .ok (.if_icmp .ne (12), 3) ∧ 68 + 3 = 71 ∧ ((68 : Nat) : Int) + (12) = ((80 : Nat) : Int) := ⟨by decide +kernel, rfl, by decide⟩
theorem dMO_count_71 : decode b_MO_count 71 = .ok (.aload_n 0, 1) ∧ 71 + 1 = 72 := ⟨by decide +kernel, rfl⟩
theorem dMO_count_72 : decode b_MO_count 72 = .ok (.getfield 46, 3) ∧ 72 + 3 = 75 := ⟨by decide +kernel, rfl⟩
theorem dMO_count_75 : decode b_MO_count 75 = .ok (.iconst 1, 1) ∧ 75 + 1 = 76 := ⟨by decide +kernel, rfl⟩
theorem dMO_count_76 : decode b_MO_count 76 = .ok (.iaload, 1) ∧ 76 + 1 = 77 := ⟨by decide +kernel, rfl⟩
theorem dMO_count_77 : decode b_MO_count 77 = .ok (.goto (27), 3) ∧ 77 + 3 = 80 ∧ ((77 : Nat) : Int) + (27) = ((104 : Nat) : Int) := ⟨by decide +kernel, rfl, by decide⟩
theorem dMO_count_80 : decode b_MO_count 80 = .ok (.iload_n 1, 1) ∧ 80 + 1 = 81 := ⟨by decide +kernel, rfl⟩
theorem dMO_count_81 : decode b_MO_count 81 = .ok (.iconst 2, 1) ∧ 81 + 1 = 82 := ⟨by decide +kernel, rfl⟩
theorem dMO_count_82 : decode b_MO_count 82 = .ok (.if_icmp .ne (12), 3) ∧ 82 + 3 = 85 ∧ ((82 : Nat) : Int) + (12) = ((94 : Nat) : Int) := ⟨by decide +kernel, rfl, by decide⟩
theorem dMO_count_85 : decode b_MO_count 85 = .ok (.aload_n 0, 1) ∧ 85 + 1 = 86 := ⟨by decide +kernel, rfl⟩
theorem dMO_count_86 : decode b_MO_count 86 = .ok (.getfield 64, 3) ∧ 86 + 3 = 89 := ⟨by decide +kernel, rfl⟩
theorem dMO_count_89 : decode b_MO_count 89 = .ok (.iconst 1, 1) ∧ 89 + 1 = 90 := ⟨by decide +kernel, rfl⟩
theorem dMO_count_90 : decode b_MO_count 90 = .ok (.iaload, 1) ∧ 90 + 1 = 91 := ⟨by decide +kernel, rfl⟩
theorem dMO_count_91 : decode b_MO_count 91 = .ok (.goto (13), 3) ∧ 91 + 3 = 94 ∧ ((91 : Nat) : Int) + (13) = ((104 : Nat) : Int) := ⟨by decide +kernel, rfl, by decide⟩
theorem dMO_count_94 : decode b_MO_count 94 = .ok (.iload_n 1, 1) ∧ 94 + 1 = 95 := ⟨by decide +kernel, rfl⟩
theorem dMO_count_95 : decode b_MO_count 95 = .ok (.iconst 3, 1) ∧ 95 + 1 = 96 := ⟨by decide +kernel, rfl⟩
theorem dMO_count_96 : decode b_MO_count 96 = .ok (.if_icmp .ne (7), 3) ∧ 96 + 3 = 99 ∧ ((96 : Nat) : Int) + (7) = ((103 : Nat) : Int) := ⟨by decide +kernel, rfl, by decide⟩
theorem dMO_count_99 : decode b_MO_count 99 = .ok (.iload_n 2, 1) ∧ 99 + 1 = 100 := ⟨by decide +kernel, rfl⟩
theorem dMO_count_100 : decode b_MO_count 100 = .ok (.goto (4), 3) ∧ 100 + 3 = 103 ∧ ((100 : Nat) : Int) + (4) = ((104 : Nat) : Int) := ⟨by decide +kernel, rfl, by decide⟩
theorem dMO_count_103 : decode b_MO_count 103 = .ok (.iconst (-1), 1) ∧ 103 + 1 = 104 := ⟨by decide +kernel, rfl⟩
theorem dMO_count_104 : decode b_MO_count 104 = .ok (.ireturn, 1) ∧ 104 + 1 = 105 := ⟨by decide +kernel, rfl⟩
theorem dMO_startAt_0 : decode b_MO_startAt 0 = .ok (.iload_n 1, 1) ∧ 0 + 1 = 1 := ⟨by decide +kernel, rfl⟩
theorem dMO_startAt_1 : decode b_MO_startAt 1 = .ok (.ifCond .lt (26), 3) ∧ 1 + 3 = 4 ∧ ((1 : Nat) : Int) + (26) = ((27 : Nat) : Int) := ⟨by decide +kernel, rfl, by decide⟩
theorem dMO_startAt_4 : decode b_MO_startAt 4 = .ok (.iload_n 1, 1) ∧ 4 + 1 = 5 := ⟨by decide +kernel, rfl⟩
theorem dMO_startAt_5 : decode b_MO_startAt 5 = .ok (.aload_n 0, 1) ∧ 5 + 1 = 6 := ⟨by decide +kernel, rfl⟩
theorem dMO_startAt_6 : decode b_MO_startAt 6 = .ok (.getfield 22, 3) ∧ 6 + 3 = 9 := ⟨by decide +kernel, rfl⟩
theorem dMO_startAt_9 : decode b_MO_startAt 9 = .ok (.iconst 1, 1) ∧ 9 + 1 = 10 := ⟨by decide +kernel, rfl⟩
theorem dMO_startAt_10 : decode b_MO_startAt 10 = .ok (.iaload, 1) ∧ 10 + 1 = 11 := ⟨by decide +kernel, rfl⟩
theorem dMO_startAt_11 : decode b_MO_startAt 11 = .ok (.if_icmp .ge (16), 3) ∧ 11 + 3 = 14 ∧ ((11 : Nat) : Int) + (16) = ((27 : Nat) : Int) := ⟨by decide +kernel, rfl, by decide⟩
theorem dMO_startAt_14 : decode b_MO_startAt 14 = .ok (.aload_n 0, 1) ∧ 14 + 1 = 15 := ⟨by decide +kernel, rfl⟩
theorem dMO_startAt_15 : decode b_MO_startAt 15 = .ok (.getfield 19, 3) ∧ 15 + 3 = 18 := ⟨by decide +kernel, rfl⟩
theorem dMO_startAt_18 : decode b_MO_startAt 18 = .ok (.sipush (1024), 3) ∧ 18 + 3 = 21 := ⟨by decide +kernel, rfl⟩
theorem dMO_startAt_21 : decode b_MO_startAt 21 = .ok (.iload_n 1, 1) ∧ 21 + 1 = 22 := ⟨by decide +kernel, rfl⟩
theorem dMO_startAt_22 : decode b_MO_startAt 22 = .ok (.iadd, 1) ∧ 22 + 1 = 23 := ⟨by decide +kernel, rfl⟩
theorem dMO_startAt_23 : decode b_MO_startAt 23 = .ok (.iaload, 1) ∧ 23 + 1 = 24 := ⟨by decide +kernel, rfl⟩
theorem dMO_startAt_24 : decode b_MO_startAt 24 = .ok (.goto (4), 3) ∧ 24 + 3 = 27 ∧ ((24 : Nat) : Int) + (4) = ((28 : Nat) : Int) := ⟨by decide +kernel, rfl, by decide⟩
theorem dMO_startAt_27 : decode b_MO_startAt 27 = .ok (.iconst (-1), 1) ∧ 27 + 1 = 28 := ⟨by decide +kernel, rfl⟩
theorem dMO_startAt_28 : decode b_MO_startAt 28 = .ok (.ireturn, 1) ∧ 28 + 1 = 29 := ⟨by decide +kernel, rfl⟩
theorem dMO_symbolAt_0 : decode b_MO_symbolAt 0 = .ok (.iload_n 1, 1) ∧ 0 + 1 = 1 := ⟨by decide +kernel, rfl⟩
theorem dMO_symbolAt_1 : decode b_MO_symbolAt 1 = .ok (.ifCond .lt (13), 3) ∧ 1 + 3 = 4 ∧ ((1 : Nat) : Int) + (13) = ((14 : Nat) : Int) := ⟨by decide +kernel, rfl, by decide⟩
theorem dMO_symbolAt_4 : decode b_MO_symbolAt 4 = .ok (.iload_n 1, 1) ∧ 4 + 1 = 5 := ⟨by decide +kernel, rfl⟩
theorem dMO_symbolAt_5 : decode b_MO_symbolAt 5 = .ok (.aload_n 0, 1) ∧ 5 + 1 = 6 := ⟨by decide +kernel, rfl⟩
theorem dMO_symbolAt_6 : decode b_MO_symbolAt 6 = .ok (.getfield 46, 3) ∧ 6 + 3 = 9 := ⟨by decide +kernel, rfl⟩
theorem dMO_symbolAt_9 : decode b_MO_symbolAt 9 = .ok (.iconst 1, 1) ∧ 9 + 1 = 10 := ⟨by decide +kernel, rfl⟩
theorem dMO_symbolAt_10 : decode b_MO_symbolAt 10 = .ok (.iaload, 1) ∧ 10 + 1 = 11 := ⟨by decide +kernel, rfl⟩
theorem dMO_symbolAt_11 : decode b_MO_symbolAt 11 = .ok (.if_icmp .lt (5), 3) ∧ 11 + 3 = 14 ∧ ((11 : Nat) : Int) + (5) = ((16 : Nat) : Int) := ⟨by decide +kernel, rfl, by decide⟩
theorem dMO_symbolAt_14 : decode b_MO_symbolAt 14 = .ok (.iconst (-1), 1) ∧ 14 + 1 = 15 := ⟨by decide +kernel, rfl⟩
theorem dMO_symbolAt_15 : decode b_MO_symbolAt 15 = .ok (.ireturn, 1) ∧ 15 + 1 = 16 := ⟨by decide +kernel, rfl⟩
theorem dMO_symbolAt_16 : decode b_MO_symbolAt 16 = .ok (.bipush (100), 2) ∧ 16 + 2 = 18 := ⟨by decide +kernel, rfl⟩
theorem dMO_symbolAt_18 : decode b_MO_symbolAt 18 = .ok (.iload_n 1, 1) ∧ 18 + 1 = 19 := ⟨by decide +kernel, rfl⟩
theorem dMO_symbolAt_19 : decode b_MO_symbolAt 19 = .ok (.iadd, 1) ∧ 19 + 1 = 20 := ⟨by decide +kernel, rfl⟩
theorem dMO_symbolAt_20 : decode b_MO_symbolAt 20 = .ok (.istore_n 3, 1) ∧ 20 + 1 = 21 := ⟨by decide +kernel, rfl⟩
theorem dMO_symbolAt_21 : decode b_MO_symbolAt 21 = .ok (.iload_n 2, 1) ∧ 21 + 1 = 22 := ⟨by decide +kernel, rfl⟩
theorem dMO_symbolAt_22 : decode b_MO_symbolAt 22 = .ok (.tableswitch (80) (0) (5) #[38, 45, 52, 59, 66, 73], 38) ∧ True := ⟨by decide +kernel, trivial⟩
theorem dMO_symbolAt_60 : decode b_MO_symbolAt 60 = .ok (.aload_n 0, 1) ∧ 60 + 1 = 61 := ⟨by decide +kernel, rfl⟩
theorem dMO_symbolAt_61 : decode b_MO_symbolAt 61 = .ok (.getfield 25, 3) ∧ 61 + 3 = 64 := ⟨by decide +kernel, rfl⟩
theorem dMO_symbolAt_64 : decode b_MO_symbolAt 64 = .ok (.iload_n 3, 1) ∧ 64 + 1 = 65 := ⟨by decide +kernel, rfl⟩
theorem dMO_symbolAt_65 : decode b_MO_symbolAt 65 = .ok (.iaload, 1) ∧ 65 + 1 = 66 := ⟨by decide +kernel, rfl⟩
theorem dMO_symbolAt_66 : decode b_MO_symbolAt 66 = .ok (.ireturn, 1) ∧ 66 + 1 = 67 := ⟨by decide +kernel, rfl⟩
theorem dMO_symbolAt_67 : decode b_MO_symbolAt 67 = .ok (.aload_n 0, 1) ∧ 67 + 1 = 68 := ⟨by decide +kernel, rfl⟩
theorem dMO_symbolAt_68 : decode b_MO_symbolAt 68 = .ok (.getfield 28, 3) ∧ 68 + 3 = 71 := ⟨by decide +kernel, rfl⟩
theorem dMO_symbolAt_71 : decode b_MO_symbolAt 71 = .ok (.iload_n 3, 1) ∧ 71 + 1 = 72 := ⟨by decide +kernel, rfl⟩
theorem dMO_symbolAt_72 : decode b_MO_symbolAt 72 = .ok (.iaload, 1) ∧ 72 + 1 = 73 := ⟨by decide +kernel, rfl⟩
theorem dMO_symbolAt_73 : decode b_MO_symbolAt 73 = .ok (.ireturn, 1) ∧ 73 + 1 = 74 := ⟨by decide +kernel, rfl⟩
theorem dMO_symbolAt_74 : decode b_MO_symbolAt 74 = .ok (.aload_n 0, 1) ∧ 74 + 1 = 75 := ⟨by decide +kernel, rfl⟩
theorem dMO_symbolAt_75 : decode b_MO_symbolAt 75 = .ok (.getfield 31, 3) ∧ 75 + 3 = 78 := ⟨by decide +kernel, rfl⟩
theorem dMO_symbolAt_78 : decode b_MO_symbolAt 78 = .ok (.iload_n 3, 1) ∧ 78 + 1 = 79 := ⟨by decide +kernel, rfl⟩
theorem dMO_symbolAt_79 : decode b_MO_symbolAt 79 = .ok (.iaload, 1) ∧ 79 + 1 = 80 := ⟨by decide +kernel, rfl⟩
theorem dMO_symbolAt_80 : decode b_MO_symbolAt 80 = .ok (.ireturn, 1) ∧ 80 + 1 = 81 := ⟨by decide +kernel, rfl⟩
theorem dMO_symbolAt_81 : decode b_MO_symbolAt 81 = .ok (.aload_n 0, 1) ∧ 81 + 1 = 82 := ⟨by decide +kernel, rfl⟩
theorem dMO_symbolAt_82 : decode b_MO_symbolAt 82 = .ok (.getfield 34, 3) ∧ 82 + 3 = 85 := ⟨by decide +kernel, rfl⟩
theorem dMO_symbolAt_85 : decode b_MO_symbolAt 85 = .ok (.iload_n 3, 1) ∧ 85 + 1 = 86 := ⟨by decide +kernel, rfl⟩
theorem dMO_symbolAt_86 : decode b_MO_symbolAt 86 = .ok (.iaload, 1) ∧ 86 + 1 = 87 := ⟨by decide +kernel, rfl⟩
theorem dMO_symbolAt_87 : decode b_MO_symbolAt 87 = .ok (.ireturn, 1) ∧ 87 + 1 = 88 := ⟨by decide +kernel, rfl⟩
theorem dMO_symbolAt_88 : decode b_MO_symbolAt 88 = .ok (.aload_n 0, 1) ∧ 88 + 1 = 89 := ⟨by decide +kernel, rfl⟩
theorem dMO_symbolAt_89 : decode b_MO_symbolAt 89 = .ok (.getfield 37, 3) ∧ 89 + 3 = 92 := ⟨by decide +kernel, rfl⟩
theorem dMO_symbolAt_92 : decode b_MO_symbolAt 92 = .ok (.iload_n 3, 1) ∧ 92 + 1 = 93 := ⟨by decide +kernel, rfl⟩
theorem dMO_symbolAt_93 : decode b_MO_symbolAt 93 = .ok (.iaload, 1) ∧ 93 + 1 = 94 := ⟨by decide +kernel, rfl⟩
theorem dMO_symbolAt_94 : decode b_MO_symbolAt 94 = .ok (.ireturn, 1) ∧ 94 + 1 = 95 := ⟨by decide +kernel, rfl⟩
theorem dMO_symbolAt_95 : decode b_MO_symbolAt 95 = .ok (.aload_n 0, 1) ∧ 95 + 1 = 96 := ⟨by decide +kernel, rfl⟩
theorem dMO_symbolAt_96 : decode b_MO_symbolAt 96 = .ok (.getfield 40, 3) ∧ 96 + 3 = 99 := ⟨by decide +kernel, rfl⟩
theorem dMO_symbolAt_99 : decode b_MO_symbolAt 99 = .ok (.iload_n 3, 1) ∧ 99 + 1 = 100 := ⟨by decide +kernel, rfl⟩
theorem dMO_symbolAt_100 : decode b_MO_symbolAt 100 = .ok (.iaload, 1) ∧ 100 + 1 = 101 := ⟨by decide +kernel, rfl⟩
theorem dMO_symbolAt_101 : decode b_MO_symbolAt 101 = .ok (.ireturn, 1) ∧ 101 + 1 = 102 := ⟨by decide +kernel, rfl⟩
theorem dMO_symbolAt_102 : decode b_MO_symbolAt 102 = .ok (.iload_n 2, 1) ∧ 102 + 1 = 103 := ⟨by decide +kernel, rfl⟩
theorem dMO_symbolAt_103 : decode b_MO_symbolAt 103 = .ok (.bipush (6), 2) ∧ 103 + 2 = 105 := ⟨by decide +kernel, rfl⟩
theorem dMO_symbolAt_105 : decode b_MO_symbolAt 105 = .ok (.if_icmp .lt (33), 3) ∧ 105 + 3 = 108 ∧ ((105 : Nat) : Int) + (33) = ((138 : Nat) : Int) := ⟨by decide +kernel, rfl, by decide⟩
theorem dMO_symbolAt_108 : decode b_MO_symbolAt 108 = .ok (.iload_n 2, 1) ∧ 108 + 1 = 109 := ⟨by decide +kernel, rfl⟩
theorem dMO_symbolAt_109 : decode b_MO_symbolAt 109 = .ok (.bipush (6), 2) ∧ 109 + 2 = 111 := ⟨by decide +kernel, rfl⟩
theorem dMO_symbolAt_111 : decode b_MO_symbolAt 111 = .ok (.isub, 1) ∧ 111 + 1 = 112 := ⟨by decide +kernel, rfl⟩
theorem dMO_symbolAt_112 : decode b_MO_symbolAt 112 = .ok (.aload_n 0, 1) ∧ 112 + 1 = 113 := ⟨by decide +kernel, rfl⟩
theorem dMO_symbolAt_113 : decode b_MO_symbolAt 113 = .ok (.getfield 40, 3) ∧ 113 + 3 = 116 := ⟨by decide +kernel, rfl⟩
theorem dMO_symbolAt_116 : decode b_MO_symbolAt 116 = .ok (.iload_n 3, 1) ∧ 116 + 1 = 117 := ⟨by decide +kernel, rfl⟩
theorem dMO_symbolAt_117 : decode b_MO_symbolAt 117 = .ok (.iaload, 1) ∧ 117 + 1 = 118 := ⟨by decide +kernel, rfl⟩
theorem dMO_symbolAt_118 : decode b_MO_symbolAt 118 = .ok (.if_icmp .ge (20), 3) ∧ 118 + 3 = 121 ∧ ((118 : Nat) : Int) + (20) = ((138 : Nat) : Int) := ⟨by decide +kernel, rfl, by decide⟩
theorem dMO_symbolAt_121 : decode b_MO_symbolAt 121 = .ok (.aload_n 0, 1) ∧ 121 + 1 = 122 := ⟨by decide +kernel, rfl⟩
theorem dMO_symbolAt_122 : decode b_MO_symbolAt 122 = .ok (.getfield 43, 3) ∧ 122 + 3 = 125 := ⟨by decide +kernel, rfl⟩
theorem dMO_symbolAt_125 : decode b_MO_symbolAt 125 = .ok (.bipush (16), 2) ∧ 125 + 2 = 127 := ⟨by decide +kernel, rfl⟩
theorem dMO_symbolAt_127 : decode b_MO_symbolAt 127 = .ok (.iload_n 3, 1) ∧ 127 + 1 = 128 := ⟨by decide +kernel, rfl⟩
theorem dMO_symbolAt_128 : decode b_MO_symbolAt 128 = .ok (.imul, 1) ∧ 128 + 1 = 129 := ⟨by decide +kernel, rfl⟩
theorem dMO_symbolAt_129 : decode b_MO_symbolAt 129 = .ok (.iload_n 2, 1) ∧ 129 + 1 = 130 := ⟨by decide +kernel, rfl⟩
theorem dMO_symbolAt_130 : decode b_MO_symbolAt 130 = .ok (.iadd, 1) ∧ 130 + 1 = 131 := ⟨by decide +kernel, rfl⟩
theorem dMO_symbolAt_131 : decode b_MO_symbolAt 131 = .ok (.bipush (6), 2) ∧ 131 + 2 = 133 := ⟨by decide +kernel, rfl⟩
theorem dMO_symbolAt_133 : decode b_MO_symbolAt 133 = .ok (.isub, 1) ∧ 133 + 1 = 134 := ⟨by decide +kernel, rfl⟩
theorem dMO_symbolAt_134 : decode b_MO_symbolAt 134 = .ok (.iaload, 1) ∧ 134 + 1 = 135 := ⟨by decide +kernel, rfl⟩
theorem dMO_symbolAt_135 : decode b_MO_symbolAt 135 = .ok (.goto (4), 3) ∧ 135 + 3 = 138 ∧ ((135 : Nat) : Int) + (4) = ((139 : Nat) : Int) := ⟨by decide +kernel, rfl, by decide⟩
theorem dMO_symbolAt_138 : decode b_MO_symbolAt 138 = .ok (.iconst (-1), 1) ∧ 138 + 1 = 139 := ⟨by decide +kernel, rfl⟩
theorem dMO_symbolAt_139 : decode b_MO_symbolAt 139 = .ok (.ireturn, 1) ∧ 139 + 1 = 140 := ⟨by decide +kernel, rfl⟩
theorem dMO_relocationAt_0 : decode b_MO_relocationAt 0 = .ok (.iload_n 1, 1) ∧ 0 + 1 = 1 := ⟨by decide +kernel, rfl⟩
theorem dMO_relocationAt_1 : decode b_MO_relocationAt 1 = .ok (.ifCond .lt (13), 3) ∧ 1 + 3 = 4 ∧ ((1 : Nat) : Int) + (13) = ((14 : Nat) : Int) := ⟨by decide +kernel, rfl, by decide⟩
theorem dMO_relocationAt_4 : decode b_MO_relocationAt 4 = .ok (.iload_n 1, 1) ∧ 4 + 1 = 5 := ⟨by decide +kernel, rfl⟩
theorem dMO_relocationAt_5 : decode b_MO_relocationAt 5 = .ok (.aload_n 0, 1) ∧ 5 + 1 = 6 := ⟨by decide +kernel, rfl⟩
theorem dMO_relocationAt_6 : decode b_MO_relocationAt 6 = .ok (.getfield 64, 3) ∧ 6 + 3 = 9 := ⟨by decide +kernel, rfl⟩
theorem dMO_relocationAt_9 : decode b_MO_relocationAt 9 = .ok (.iconst 1, 1) ∧ 9 + 1 = 10 := ⟨by decide +kernel, rfl⟩
theorem dMO_relocationAt_10 : decode b_MO_relocationAt 10 = .ok (.iaload, 1) ∧ 10 + 1 = 11 := ⟨by decide +kernel, rfl⟩
theorem dMO_relocationAt_11 : decode b_MO_relocationAt 11 = .ok (.if_icmp .lt (5), 3) ∧ 11 + 3 = 14 ∧ ((11 : Nat) : Int) + (5) = ((16 : Nat) : Int) := ⟨by decide +kernel, rfl, by decide⟩
theorem dMO_relocationAt_14 : decode b_MO_relocationAt 14 = .ok (.iconst (-1), 1) ∧ 14 + 1 = 15 := ⟨by decide +kernel, rfl⟩
theorem dMO_relocationAt_15 : decode b_MO_relocationAt 15 = .ok (.ireturn, 1) ∧ 15 + 1 = 16 := ⟨by decide +kernel, rfl⟩
theorem dMO_relocationAt_16 : decode b_MO_relocationAt 16 = .ok (.sipush (300), 3) ∧ 16 + 3 = 19 := ⟨by decide +kernel, rfl⟩
theorem dMO_relocationAt_19 : decode b_MO_relocationAt 19 = .ok (.iload_n 1, 1) ∧ 19 + 1 = 20 := ⟨by decide +kernel, rfl⟩
theorem dMO_relocationAt_20 : decode b_MO_relocationAt 20 = .ok (.iadd, 1) ∧ 20 + 1 = 21 := ⟨by decide +kernel, rfl⟩
theorem dMO_relocationAt_21 : decode b_MO_relocationAt 21 = .ok (.istore_n 3, 1) ∧ 21 + 1 = 22 := ⟨by decide +kernel, rfl⟩
theorem dMO_relocationAt_22 : decode b_MO_relocationAt 22 = .ok (.iload_n 2, 1) ∧ 22 + 1 = 23 := ⟨by decide +kernel, rfl⟩
theorem dMO_relocationAt_23 : decode b_MO_relocationAt 23 = .ok (.ifCond .ne (12), 3) ∧ 23 + 3 = 26 ∧ ((23 : Nat) : Int) + (12) = ((35 : Nat) : Int) := ⟨by decide +kernel, rfl, by decide⟩
theorem dMO_relocationAt_26 : decode b_MO_relocationAt 26 = .ok (.aload_n 0, 1) ∧ 26 + 1 = 27 := ⟨by decide +kernel, rfl⟩
theorem dMO_relocationAt_27 : decode b_MO_relocationAt 27 = .ok (.getfield 49, 3) ∧ 27 + 3 = 30 := ⟨by decide +kernel, rfl⟩
theorem dMO_relocationAt_30 : decode b_MO_relocationAt 30 = .ok (.iload_n 3, 1) ∧ 30 + 1 = 31 := ⟨by decide +kernel, rfl⟩
theorem dMO_relocationAt_31 : decode b_MO_relocationAt 31 = .ok (.iaload, 1) ∧ 31 + 1 = 32 := ⟨by decide +kernel, rfl⟩
theorem dMO_relocationAt_32 : decode b_MO_relocationAt 32 = .ok (.goto (60), 3) ∧ 32 + 3 = 35 ∧ ((32 : Nat) : Int) + (60) = ((92 : Nat) : Int) := ⟨by decide +kernel, rfl, by decide⟩
theorem dMO_relocationAt_35 : decode b_MO_relocationAt 35 = .ok (.iload_n 2, 1) ∧ 35 + 1 = 36 := ⟨by decide +kernel, rfl⟩
theorem dMO_relocationAt_36 : decode b_MO_relocationAt 36 = .ok (.iconst 1, 1) ∧ 36 + 1 = 37 := ⟨by decide +kernel, rfl⟩
theorem dMO_relocationAt_37 : decode b_MO_relocationAt 37 = .ok (.if_icmp .ne (12), 3) ∧ 37 + 3 = 40 ∧ ((37 : Nat) : Int) + (12) = ((49 : Nat) : Int) := ⟨by decide +kernel, rfl, by decide⟩
theorem dMO_relocationAt_40 : decode b_MO_relocationAt 40 = .ok (.aload_n 0, 1) ∧ 40 + 1 = 41 := ⟨by decide +kernel, rfl⟩
theorem dMO_relocationAt_41 : decode b_MO_relocationAt 41 = .ok (.getfield 52, 3) ∧ 41 + 3 = 44 := ⟨by decide +kernel, rfl⟩
theorem dMO_relocationAt_44 : decode b_MO_relocationAt 44 = .ok (.iload_n 3, 1) ∧ 44 + 1 = 45 := ⟨by decide +kernel, rfl⟩
theorem dMO_relocationAt_45 : decode b_MO_relocationAt 45 = .ok (.iaload, 1) ∧ 45 + 1 = 46 := ⟨by decide +kernel, rfl⟩
theorem dMO_relocationAt_46 : decode b_MO_relocationAt 46 = .ok (.goto (46), 3) ∧ 46 + 3 = 49 ∧ ((46 : Nat) : Int) + (46) = ((92 : Nat) : Int) := ⟨by decide +kernel, rfl, by decide⟩
theorem dMO_relocationAt_49 : decode b_MO_relocationAt 49 = .ok (.iload_n 2, 1) ∧ 49 + 1 = 50 := ⟨by decide +kernel, rfl⟩
theorem dMO_relocationAt_50 : decode b_MO_relocationAt 50 = .ok (.iconst 2, 1) ∧ 50 + 1 = 51 := ⟨by decide +kernel, rfl⟩
theorem dMO_relocationAt_51 : decode b_MO_relocationAt 51 = .ok (.if_icmp .ne (12), 3) ∧ 51 + 3 = 54 ∧ ((51 : Nat) : Int) + (12) = ((63 : Nat) : Int) := ⟨by decide +kernel, rfl, by decide⟩
theorem dMO_relocationAt_54 : decode b_MO_relocationAt 54 = .ok (.aload_n 0, 1) ∧ 54 + 1 = 55 := ⟨by decide +kernel, rfl⟩
theorem dMO_relocationAt_55 : decode b_MO_relocationAt 55 = .ok (.getfield 55, 3) ∧ 55 + 3 = 58 := ⟨by decide +kernel, rfl⟩
theorem dMO_relocationAt_58 : decode b_MO_relocationAt 58 = .ok (.iload_n 3, 1) ∧ 58 + 1 = 59 := ⟨by decide +kernel, rfl⟩
theorem dMO_relocationAt_59 : decode b_MO_relocationAt 59 = .ok (.iaload, 1) ∧ 59 + 1 = 60 := ⟨by decide +kernel, rfl⟩
theorem dMO_relocationAt_60 : decode b_MO_relocationAt 60 = .ok (.goto (32), 3) ∧ 60 + 3 = 63 ∧ ((60 : Nat) : Int) + (32) = ((92 : Nat) : Int) := ⟨by decide +kernel, rfl, by decide⟩
theorem dMO_relocationAt_63 : decode b_MO_relocationAt 63 = .ok (.iload_n 2, 1) ∧ 63 + 1 = 64 := ⟨by decide +kernel, rfl⟩
theorem dMO_relocationAt_64 : decode b_MO_relocationAt 64 = .ok (.iconst 3, 1) ∧ 64 + 1 = 65 := ⟨by decide +kernel, rfl⟩
theorem dMO_relocationAt_65 : decode b_MO_relocationAt 65 = .ok (.if_icmp .ne (12), 3) ∧ 65 + 3 = 68 ∧ ((65 : Nat) : Int) + (12) = ((77 : Nat) : Int) := ⟨by decide +kernel, rfl, by decide⟩
theorem dMO_relocationAt_68 : decode b_MO_relocationAt 68 = .ok (.aload_n 0, 1) ∧ 68 + 1 = 69 := ⟨by decide +kernel, rfl⟩
theorem dMO_relocationAt_69 : decode b_MO_relocationAt 69 = .ok (.getfield 58, 3) ∧ 69 + 3 = 72 := ⟨by decide +kernel, rfl⟩
theorem dMO_relocationAt_72 : decode b_MO_relocationAt 72 = .ok (.iload_n 3, 1) ∧ 72 + 1 = 73 := ⟨by decide +kernel, rfl⟩
theorem dMO_relocationAt_73 : decode b_MO_relocationAt 73 = .ok (.iaload, 1) ∧ 73 + 1 = 74 := ⟨by decide +kernel, rfl⟩
theorem dMO_relocationAt_74 : decode b_MO_relocationAt 74 = .ok (.goto (18), 3) ∧ 74 + 3 = 77 ∧ ((74 : Nat) : Int) + (18) = ((92 : Nat) : Int) := ⟨by decide +kernel, rfl, by decide⟩
theorem dMO_relocationAt_77 : decode b_MO_relocationAt 77 = .ok (.iload_n 2, 1) ∧ 77 + 1 = 78 := ⟨by decide +kernel, rfl⟩
theorem dMO_relocationAt_78 : decode b_MO_relocationAt 78 = .ok (.iconst 4, 1) ∧ 78 + 1 = 79 := ⟨by decide +kernel, rfl⟩
theorem dMO_relocationAt_79 : decode b_MO_relocationAt 79 = .ok (.if_icmp .ne (12), 3) ∧ 79 + 3 = 82 ∧ ((79 : Nat) : Int) + (12) = ((91 : Nat) : Int) := ⟨by decide +kernel, rfl, by decide⟩
theorem dMO_relocationAt_82 : decode b_MO_relocationAt 82 = .ok (.aload_n 0, 1) ∧ 82 + 1 = 83 := ⟨by decide +kernel, rfl⟩
theorem dMO_relocationAt_83 : decode b_MO_relocationAt 83 = .ok (.getfield 61, 3) ∧ 83 + 3 = 86 := ⟨by decide +kernel, rfl⟩
theorem dMO_relocationAt_86 : decode b_MO_relocationAt 86 = .ok (.iload_n 3, 1) ∧ 86 + 1 = 87 := ⟨by decide +kernel, rfl⟩
theorem dMO_relocationAt_87 : decode b_MO_relocationAt 87 = .ok (.iaload, 1) ∧ 87 + 1 = 88 := ⟨by decide +kernel, rfl⟩
theorem dMO_relocationAt_88 : decode b_MO_relocationAt 88 = .ok (.goto (4), 3) ∧ 88 + 3 = 91 ∧ ((88 : Nat) : Int) + (4) = ((92 : Nat) : Int) := ⟨by decide +kernel, rfl, by decide⟩
theorem dMO_relocationAt_91 : decode b_MO_relocationAt 91 = .ok (.iconst (-1), 1) ∧ 91 + 1 = 92 := ⟨by decide +kernel, rfl⟩
theorem dMO_relocationAt_92 : decode b_MO_relocationAt 92 = .ok (.ireturn, 1) ∧ 92 + 1 = 93 := ⟨by decide +kernel, rfl⟩
theorem dMO_letterOf_0 : decode b_MO_letterOf 0 = .ok (.aload_n 0, 1) ∧ 0 + 1 = 1 := ⟨by decide +kernel, rfl⟩
theorem dMO_letterOf_1 : decode b_MO_letterOf 1 = .ok (.getfield 77, 3) ∧ 1 + 3 = 4 := ⟨by decide +kernel, rfl⟩
theorem dMO_letterOf_4 : decode b_MO_letterOf 4 = .ok (.aload_n 0, 1) ∧ 4 + 1 = 5 := ⟨by decide +kernel, rfl⟩
theorem dMO_letterOf_5 : decode b_MO_letterOf 5 = .ok (.getfield 117, 3) ∧ 5 + 3 = 8 := ⟨by decide +kernel, rfl⟩
theorem dMO_letterOf_8 : decode b_MO_letterOf 8 = .ok (.iload_n 1, 1) ∧ 8 + 1 = 9 := ⟨by decide +kernel, rfl⟩
theorem dMO_letterOf_9 : decode b_MO_letterOf 9 = .ok (.iastore, 1) ∧ 9 + 1 = 10 := ⟨by decide +kernel, rfl⟩
theorem dMO_letterOf_10 : decode b_MO_letterOf 10 = .ok (.aload_n 0, 1) ∧ 10 + 1 = 11 := ⟨by decide +kernel, rfl⟩
theorem dMO_letterOf_11 : decode b_MO_letterOf 11 = .ok (.dup, 1) ∧ 11 + 1 = 12 := ⟨by decide +kernel, rfl⟩
theorem dMO_letterOf_12 : decode b_MO_letterOf 12 = .ok (.getfield 117, 3) ∧ 12 + 3 = 15 := ⟨by decide +kernel, rfl⟩
theorem dMO_letterOf_15 : decode b_MO_letterOf 15 = .ok (.iconst 1, 1) ∧ 15 + 1 = 16 := ⟨by decide +kernel, rfl⟩
theorem dMO_letterOf_16 : decode b_MO_letterOf 16 = .ok (.iadd, 1) ∧ 16 + 1 = 17 := ⟨by decide +kernel, rfl⟩
theorem dMO_letterOf_17 : decode b_MO_letterOf 17 = .ok (.putfield 117, 3) ∧ 17 + 3 = 20 := ⟨by decide +kernel, rfl⟩
theorem dMO_letterOf_20 : decode b_MO_letterOf 20 = .ok (.return_, 1) ∧ 20 + 1 = 21 := ⟨by decide +kernel, rfl⟩
theorem dMO_title_0 : decode b_MO_title 0 = .ok (.aload_n 0, 1) ∧ 0 + 1 = 1 := ⟨by decide +kernel, rfl⟩
theorem dMO_title_1 : decode b_MO_title 1 = .ok (.getfield 80, 3) ∧ 1 + 3 = 4 := ⟨by decide +kernel, rfl⟩
theorem dMO_title_4 : decode b_MO_title 4 = .ok (.iload_n 1, 1) ∧ 4 + 1 = 5 := ⟨by decide +kernel, rfl⟩
theorem dMO_title_5 : decode b_MO_title 5 = .ok (.aload_n 0, 1) ∧ 5 + 1 = 6 := ⟨by decide +kernel, rfl⟩
theorem dMO_title_6 : decode b_MO_title 6 = .ok (.getfield 117, 3) ∧ 6 + 3 = 9 := ⟨by decide +kernel, rfl⟩
theorem dMO_title_9 : decode b_MO_title 9 = .ok (.iastore, 1) ∧ 9 + 1 = 10 := ⟨by decide +kernel, rfl⟩
theorem dMO_title_10 : decode b_MO_title 10 = .ok (.aload_n 0, 1) ∧ 10 + 1 = 11 := ⟨by decide +kernel, rfl⟩
theorem dMO_title_11 : decode b_MO_title 11 = .ok (.bipush (46), 2) ∧ 11 + 2 = 13 := ⟨by decide +kernel, rfl⟩
theorem dMO_title_13 : decode b_MO_title 13 = .ok (.invokevirtual 120, 3) ∧ 13 + 3 = 16 := ⟨by decide +kernel, rfl⟩
theorem dMO_title_16 : decode b_MO_title 16 = .ok (.iload_n 2, 1) ∧ 16 + 1 = 17 := ⟨by decide +kernel, rfl⟩
theorem dMO_title_17 : decode b_MO_title 17 = .ok (.bipush (114), 2) ∧ 17 + 2 = 19 := ⟨by decide +kernel, rfl⟩
theorem dMO_title_19 : decode b_MO_title 19 = .ok (.if_icmp .ne (33), 3) ∧ 19 + 3 = 22 ∧ ((19 : Nat) : Int) + (33) = ((52 : Nat) : Int) := ⟨by decide +kernel, rfl, by decide⟩
theorem dMO_title_22 : decode b_MO_title 22 = .ok (.aload_n 0, 1) ∧ 22 + 1 = 23 := ⟨by decide +kernel, rfl⟩
theorem dMO_title_23 : decode b_MO_title 23 = .ok (.bipush (114), 2) ∧ 23 + 2 = 25 := ⟨by decide +kernel, rfl⟩
theorem dMO_title_25 : decode b_MO_title 25 = .ok (.invokevirtual 120, 3) ∧ 25 + 3 = 28 := ⟨by decide +kernel, rfl⟩
theorem dMO_title_28 : decode b_MO_title 28 = .ok (.aload_n 0, 1) ∧ 28 + 1 = 29 := ⟨by decide +kernel, rfl⟩
theorem dMO_title_29 : decode b_MO_title 29 = .ok (.bipush (101), 2) ∧ 29 + 2 = 31 := ⟨by decide +kernel, rfl⟩
theorem dMO_title_31 : decode b_MO_title 31 = .ok (.invokevirtual 120, 3) ∧ 31 + 3 = 34 := ⟨by decide +kernel, rfl⟩
theorem dMO_title_34 : decode b_MO_title 34 = .ok (.aload_n 0, 1) ∧ 34 + 1 = 35 := ⟨by decide +kernel, rfl⟩
theorem dMO_title_35 : decode b_MO_title 35 = .ok (.bipush (108), 2) ∧ 35 + 2 = 37 := ⟨by decide +kernel, rfl⟩
theorem dMO_title_37 : decode b_MO_title 37 = .ok (.invokevirtual 120, 3) ∧ 37 + 3 = 40 := ⟨by decide +kernel, rfl⟩
theorem dMO_title_40 : decode b_MO_title 40 = .ok (.aload_n 0, 1) ∧ 40 + 1 = 41 := ⟨by decide +kernel, rfl⟩
theorem dMO_title_41 : decode b_MO_title 41 = .ok (.bipush (97), 2) ∧ 41 + 2 = 43 := ⟨by decide +kernel, rfl⟩
theorem dMO_title_43 : decode b_MO_title 43 = .ok (.invokevirtual 120, 3) ∧ 43 + 3 = 46 := ⟨by decide +kernel, rfl⟩
theorem dMO_title_46 : decode b_MO_title 46 = .ok (.aload_n 0, 1) ∧ 46 + 1 = 47 := ⟨by decide +kernel, rfl⟩
theorem dMO_title_47 : decode b_MO_title 47 = .ok (.bipush (46), 2) ∧ 47 + 2 = 49 := ⟨by decide +kernel, rfl⟩
theorem dMO_title_49 : decode b_MO_title 49 = .ok (.invokevirtual 120, 3) ∧ 49 + 3 = 52 := ⟨by decide +kernel, rfl⟩
theorem dMO_title_52 : decode b_MO_title 52 = .ok (.aload_n 0, 1) ∧ 52 + 1 = 53 := ⟨by decide +kernel, rfl⟩
theorem dMO_title_53 : decode b_MO_title 53 = .ok (.iload_n 3, 1) ∧ 53 + 1 = 54 := ⟨by decide +kernel, rfl⟩
theorem dMO_title_54 : decode b_MO_title 54 = .ok (.invokevirtual 120, 3) ∧ 54 + 3 = 57 := ⟨by decide +kernel, rfl⟩
theorem dMO_title_57 : decode b_MO_title 57 = .ok (.aload_n 0, 1) ∧ 57 + 1 = 58 := ⟨by decide +kernel, rfl⟩
theorem dMO_title_58 : decode b_MO_title 58 = .ok (.iload 4, 2) ∧ 58 + 2 = 60 := ⟨by decide +kernel, rfl⟩
theorem dMO_title_60 : decode b_MO_title 60 = .ok (.invokevirtual 120, 3) ∧ 60 + 3 = 63 := ⟨by decide +kernel, rfl⟩
theorem dMO_title_63 : decode b_MO_title 63 = .ok (.aload_n 0, 1) ∧ 63 + 1 = 64 := ⟨by decide +kernel, rfl⟩
theorem dMO_title_64 : decode b_MO_title 64 = .ok (.iload 5, 2) ∧ 64 + 2 = 66 := ⟨by decide +kernel, rfl⟩
theorem dMO_title_66 : decode b_MO_title 66 = .ok (.invokevirtual 120, 3) ∧ 66 + 3 = 69 := ⟨by decide +kernel, rfl⟩
theorem dMO_title_69 : decode b_MO_title 69 = .ok (.iload 6, 2) ∧ 69 + 2 = 71 := ⟨by decide +kernel, rfl⟩
theorem dMO_title_71 : decode b_MO_title 71 = .ok (.ifCond .eq (9), 3) ∧ 71 + 3 = 74 ∧ ((71 : Nat) : Int) + (9) = ((80 : Nat) : Int) := ⟨by decide +kernel, rfl, by decide⟩
theorem dMO_title_74 : decode b_MO_title 74 = .ok (.aload_n 0, 1) ∧ 74 + 1 = 75 := ⟨by decide +kernel, rfl⟩
theorem dMO_title_75 : decode b_MO_title 75 = .ok (.iload 6, 2) ∧ 75 + 2 = 77 := ⟨by decide +kernel, rfl⟩
theorem dMO_title_77 : decode b_MO_title 77 = .ok (.invokevirtual 120, 3) ∧ 77 + 3 = 80 := ⟨by decide +kernel, rfl⟩
theorem dMO_title_80 : decode b_MO_title 80 = .ok (.iload 7, 2) ∧ 80 + 2 = 82 := ⟨by decide +kernel, rfl⟩
theorem dMO_title_82 : decode b_MO_title 82 = .ok (.ifCond .eq (9), 3) ∧ 82 + 3 = 85 ∧ ((82 : Nat) : Int) + (9) = ((91 : Nat) : Int) := ⟨by decide +kernel, rfl, by decide⟩
theorem dMO_title_85 : decode b_MO_title 85 = .ok (.aload_n 0, 1) ∧ 85 + 1 = 86 := ⟨by decide +kernel, rfl⟩
theorem dMO_title_86 : decode b_MO_title 86 = .ok (.iload 7, 2) ∧ 86 + 2 = 88 := ⟨by decide +kernel, rfl⟩
theorem dMO_title_88 : decode b_MO_title 88 = .ok (.invokevirtual 120, 3) ∧ 88 + 3 = 91 := ⟨by decide +kernel, rfl⟩
theorem dMO_title_91 : decode b_MO_title 91 = .ok (.iload 8, 2) ∧ 91 + 2 = 93 := ⟨by decide +kernel, rfl⟩
theorem dMO_title_93 : decode b_MO_title 93 = .ok (.ifCond .eq (9), 3) ∧ 93 + 3 = 96 ∧ ((93 : Nat) : Int) + (9) = ((102 : Nat) : Int) := ⟨by decide +kernel, rfl, by decide⟩
theorem dMO_title_96 : decode b_MO_title 96 = .ok (.aload_n 0, 1) ∧ 96 + 1 = 97 := ⟨by decide +kernel, rfl⟩
theorem dMO_title_97 : decode b_MO_title 97 = .ok (.iload 8, 2) ∧ 97 + 2 = 99 := ⟨by decide +kernel, rfl⟩
theorem dMO_title_99 : decode b_MO_title 99 = .ok (.invokevirtual 120, 3) ∧ 99 + 3 = 102 := ⟨by decide +kernel, rfl⟩
theorem dMO_title_102 : decode b_MO_title 102 = .ok (.iload 9, 2) ∧ 102 + 2 = 104 := ⟨by decide +kernel, rfl⟩
theorem dMO_title_104 : decode b_MO_title 104 = .ok (.ifCond .eq (9), 3) ∧ 104 + 3 = 107 ∧ ((104 : Nat) : Int) + (9) = ((113 : Nat) : Int) := ⟨by decide +kernel, rfl, by decide⟩
theorem dMO_title_107 : decode b_MO_title 107 = .ok (.aload_n 0, 1) ∧ 107 + 1 = 108 := ⟨by decide +kernel, rfl⟩
theorem dMO_title_108 : decode b_MO_title 108 = .ok (.iload 9, 2) ∧ 108 + 2 = 110 := ⟨by decide +kernel, rfl⟩
theorem dMO_title_110 : decode b_MO_title 110 = .ok (.invokevirtual 120, 3) ∧ 110 + 3 = 113 := ⟨by decide +kernel, rfl⟩
theorem dMO_title_113 : decode b_MO_title 113 = .ok (.aload_n 0, 1) ∧ 113 + 1 = 114 := ⟨by decide +kernel, rfl⟩
theorem dMO_title_114 : decode b_MO_title 114 = .ok (.iconst 0, 1) ∧ 114 + 1 = 115 := ⟨by decide +kernel, rfl⟩
theorem dMO_title_115 : decode b_MO_title 115 = .ok (.invokevirtual 120, 3) ∧ 115 + 3 = 118 := ⟨by decide +kernel, rfl⟩
theorem dMO_title_118 : decode b_MO_title 118 = .ok (.return_, 1) ∧ 118 + 1 = 119 := ⟨by decide +kernel, rfl⟩
