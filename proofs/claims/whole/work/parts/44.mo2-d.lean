theorem dMO_nameFaults_0 : decode b_MO_nameFaults 0 = .ok (.aload_n 0, 1) ∧ 0 + 1 = 1 := ⟨by decide +kernel, rfl⟩
theorem dMO_nameFaults_1 : decode b_MO_nameFaults 1 = .ok (.bipush (50), 2) ∧ 1 + 2 = 3 := ⟨by decide +kernel, rfl⟩
theorem dMO_nameFaults_3 : decode b_MO_nameFaults 3 = .ok (.invokevirtual 249, 3) ∧ 3 + 3 = 6 := ⟨by decide +kernel, rfl⟩
theorem dMO_nameFaults_6 : decode b_MO_nameFaults 6 = .ok (.istore_n 1, 1) ∧ 6 + 1 = 7 := ⟨by decide +kernel, rfl⟩
theorem dMO_nameFaults_7 : decode b_MO_nameFaults 7 = .ok (.aload_n 0, 1) ∧ 7 + 1 = 8 := ⟨by decide +kernel, rfl⟩
theorem dMO_nameFaults_8 : decode b_MO_nameFaults 8 = .ok (.iload_n 1, 1) ∧ 8 + 1 = 9 := ⟨by decide +kernel, rfl⟩
theorem dMO_nameFaults_9 : decode b_MO_nameFaults 9 = .ok (.iconst 1, 1) ∧ 9 + 1 = 10 := ⟨by decide +kernel, rfl⟩
theorem dMO_nameFaults_10 : decode b_MO_nameFaults 10 = .ok (.invokevirtual 273, 3) ∧ 10 + 3 = 13 := ⟨by decide +kernel, rfl⟩
theorem dMO_nameFaults_13 : decode b_MO_nameFaults 13 = .ok (.ldc2_w 285, 3) ∧ 13 + 3 = 16 := ⟨by decide +kernel, rfl⟩
theorem dMO_nameFaults_16 : decode b_MO_nameFaults 16 = .ok (.lcmp, 1) ∧ 16 + 1 = 17 := ⟨by decide +kernel, rfl⟩
theorem dMO_nameFaults_17 : decode b_MO_nameFaults 17 = .ok (.ifCond .eq (16), 3) ∧ 17 + 3 = 20 ∧ ((17 : Nat) : Int) + (16) = ((33 : Nat) : Int) := ⟨by decide +kernel, rfl, by decide⟩
theorem dMO_nameFaults_20 : decode b_MO_nameFaults 20 = .ok (.aload_n 0, 1) ∧ 20 + 1 = 21 := ⟨by decide +kernel, rfl⟩
theorem dMO_nameFaults_21 : decode b_MO_nameFaults 21 = .ok (.bipush (15), 2) ∧ 21 + 2 = 23 := ⟨by decide +kernel, rfl⟩
theorem dMO_nameFaults_23 : decode b_MO_nameFaults 23 = .ok (.aload_n 0, 1) ∧ 23 + 1 = 24 := ⟨by decide +kernel, rfl⟩
theorem dMO_nameFaults_24 : decode b_MO_nameFaults 24 = .ok (.iload_n 1, 1) ∧ 24 + 1 = 25 := ⟨by decide +kernel, rfl⟩
theorem dMO_nameFaults_25 : decode b_MO_nameFaults 25 = .ok (.iconst 1, 1) ∧ 25 + 1 = 26 := ⟨by decide +kernel, rfl⟩
theorem dMO_nameFaults_26 : decode b_MO_nameFaults 26 = .ok (.invokevirtual 257, 3) ∧ 26 + 3 = 29 := ⟨by decide +kernel, rfl⟩
theorem dMO_nameFaults_29 : decode b_MO_nameFaults 29 = .ok (.invokevirtual 264, 3) ∧ 29 + 3 = 32 := ⟨by decide +kernel, rfl⟩
theorem dMO_nameFaults_32 : decode b_MO_nameFaults 32 = .ok (.ireturn, 1) ∧ 32 + 1 = 33 := ⟨by decide +kernel, rfl⟩
theorem dMO_nameFaults_33 : decode b_MO_nameFaults 33 = .ok (.aload_n 0, 1) ∧ 33 + 1 = 34 := ⟨by decide +kernel, rfl⟩
theorem dMO_nameFaults_34 : decode b_MO_nameFaults 34 = .ok (.iload_n 1, 1) ∧ 34 + 1 = 35 := ⟨by decide +kernel, rfl⟩
theorem dMO_nameFaults_35 : decode b_MO_nameFaults 35 = .ok (.iconst 4, 1) ∧ 35 + 1 = 36 := ⟨by decide +kernel, rfl⟩
theorem dMO_nameFaults_36 : decode b_MO_nameFaults 36 = .ok (.invokevirtual 273, 3) ∧ 36 + 3 = 39 := ⟨by decide +kernel, rfl⟩
theorem dMO_nameFaults_39 : decode b_MO_nameFaults 39 = .ok (.l2i, 1) ∧ 39 + 1 = 40 := ⟨by decide +kernel, rfl⟩
theorem dMO_nameFaults_40 : decode b_MO_nameFaults 40 = .ok (.istore_n 2, 1) ∧ 40 + 1 = 41 := ⟨by decide +kernel, rfl⟩
theorem dMO_nameFaults_41 : decode b_MO_nameFaults 41 = .ok (.aload_n 0, 1) ∧ 41 + 1 = 42 := ⟨by decide +kernel, rfl⟩
theorem dMO_nameFaults_42 : decode b_MO_nameFaults 42 = .ok (.iload_n 1, 1) ∧ 42 + 1 = 43 := ⟨by decide +kernel, rfl⟩
theorem dMO_nameFaults_43 : decode b_MO_nameFaults 43 = .ok (.iconst 5, 1) ∧ 43 + 1 = 44 := ⟨by decide +kernel, rfl⟩
theorem dMO_nameFaults_44 : decode b_MO_nameFaults 44 = .ok (.invokevirtual 273, 3) ∧ 44 + 3 = 47 := ⟨by decide +kernel, rfl⟩
theorem dMO_nameFaults_47 : decode b_MO_nameFaults 47 = .ok (.l2i, 1) ∧ 47 + 1 = 48 := ⟨by decide +kernel, rfl⟩
theorem dMO_nameFaults_48 : decode b_MO_nameFaults 48 = .ok (.istore_n 3, 1) ∧ 48 + 1 = 49 := ⟨by decide +kernel, rfl⟩
theorem dMO_nameFaults_49 : decode b_MO_nameFaults 49 = .ok (.iload_n 3, 1) ∧ 49 + 1 = 50 := ⟨by decide +kernel, rfl⟩
theorem dMO_nameFaults_50 : decode b_MO_nameFaults 50 = .ok (.ifCond .ne (16), 3) ∧ 50 + 3 = 53 ∧ ((50 : Nat) : Int) + (16) = ((66 : Nat) : Int) := ⟨by decide +kernel, rfl, by decide⟩
theorem dMO_nameFaults_53 : decode b_MO_nameFaults 53 = .ok (.aload_n 0, 1) ∧ 53 + 1 = 54 := ⟨by decide +kernel, rfl⟩
theorem dMO_nameFaults_54 : decode b_MO_nameFaults 54 = .ok (.bipush (15), 2) ∧ 54 + 2 = 56 := ⟨by decide +kernel, rfl⟩
theorem dMO_nameFaults_56 : decode b_MO_nameFaults 56 = .ok (.aload_n 0, 1) ∧ 56 + 1 = 57 := ⟨by decide +kernel, rfl⟩
theorem dMO_nameFaults_57 : decode b_MO_nameFaults 57 = .ok (.iload_n 1, 1) ∧ 57 + 1 = 58 := ⟨by decide +kernel, rfl⟩
theorem dMO_nameFaults_58 : decode b_MO_nameFaults 58 = .ok (.iconst 5, 1) ∧ 58 + 1 = 59 := ⟨by decide +kernel, rfl⟩
theorem dMO_nameFaults_59 : decode b_MO_nameFaults 59 = .ok (.invokevirtual 257, 3) ∧ 59 + 3 = 62 := ⟨by decide +kernel, rfl⟩
theorem dMO_nameFaults_62 : decode b_MO_nameFaults 62 = .ok (.invokevirtual 264, 3) ∧ 62 + 3 = 65 := ⟨by decide +kernel, rfl⟩
theorem dMO_nameFaults_65 : decode b_MO_nameFaults 65 = .ok (.ireturn, 1) ∧ 65 + 1 = 66 := ⟨by decide +kernel, rfl⟩
theorem dMO_nameFaults_66 : decode b_MO_nameFaults 66 = .ok (.aload_n 0, 1) ∧ 66 + 1 = 67 := ⟨by decide +kernel, rfl⟩
theorem dMO_nameFaults_67 : decode b_MO_nameFaults 67 = .ok (.getfield 70, 3) ∧ 67 + 3 = 70 := ⟨by decide +kernel, rfl⟩
theorem dMO_nameFaults_70 : decode b_MO_nameFaults 70 = .ok (.iload_n 2, 1) ∧ 70 + 1 = 71 := ⟨by decide +kernel, rfl⟩
theorem dMO_nameFaults_71 : decode b_MO_nameFaults 71 = .ok (.iaload, 1) ∧ 71 + 1 = 72 := ⟨by decide +kernel, rfl⟩
theorem dMO_nameFaults_72 : decode b_MO_nameFaults 72 = .ok (.ifCond .eq (11), 3) ∧ 72 + 3 = 75 ∧ ((72 : Nat) : Int) + (11) = ((83 : Nat) : Int) := ⟨by decide +kernel, rfl, by decide⟩
theorem dMO_nameFaults_75 : decode b_MO_nameFaults 75 = .ok (.aload_n 0, 1) ∧ 75 + 1 = 76 := ⟨by decide +kernel, rfl⟩
theorem dMO_nameFaults_76 : decode b_MO_nameFaults 76 = .ok (.bipush (15), 2) ∧ 76 + 2 = 78 := ⟨by decide +kernel, rfl⟩
theorem dMO_nameFaults_78 : decode b_MO_nameFaults 78 = .ok (.iload_n 2, 1) ∧ 78 + 1 = 79 := ⟨by decide +kernel, rfl⟩
theorem dMO_nameFaults_79 : decode b_MO_nameFaults 79 = .ok (.invokevirtual 264, 3) ∧ 79 + 3 = 82 := ⟨by decide +kernel, rfl⟩
theorem dMO_nameFaults_82 : decode b_MO_nameFaults 82 = .ok (.ireturn, 1) ∧ 82 + 1 = 83 := ⟨by decide +kernel, rfl⟩
theorem dMO_nameFaults_83 : decode b_MO_nameFaults 83 = .ok (.aload_n 0, 1) ∧ 83 + 1 = 84 := ⟨by decide +kernel, rfl⟩
theorem dMO_nameFaults_84 : decode b_MO_nameFaults 84 = .ok (.getfield 70, 3) ∧ 84 + 3 = 87 := ⟨by decide +kernel, rfl⟩
theorem dMO_nameFaults_87 : decode b_MO_nameFaults 87 = .ok (.iload_n 2, 1) ∧ 87 + 1 = 88 := ⟨by decide +kernel, rfl⟩
theorem dMO_nameFaults_88 : decode b_MO_nameFaults 88 = .ok (.iload_n 3, 1) ∧ 88 + 1 = 89 := ⟨by decide +kernel, rfl⟩
theorem dMO_nameFaults_89 : decode b_MO_nameFaults 89 = .ok (.iadd, 1) ∧ 89 + 1 = 90 := ⟨by decide +kernel, rfl⟩
theorem dMO_nameFaults_90 : decode b_MO_nameFaults 90 = .ok (.iconst 1, 1) ∧ 90 + 1 = 91 := ⟨by decide +kernel, rfl⟩
theorem dMO_nameFaults_91 : decode b_MO_nameFaults 91 = .ok (.isub, 1) ∧ 91 + 1 = 92 := ⟨by decide +kernel, rfl⟩
theorem dMO_nameFaults_92 : decode b_MO_nameFaults 92 = .ok (.iaload, 1) ∧ 92 + 1 = 93 := ⟨by decide +kernel, rfl⟩
theorem dMO_nameFaults_93 : decode b_MO_nameFaults 93 = .ok (.ifCond .eq (15), 3) ∧ 93 + 3 = 96 ∧ ((93 : Nat) : Int) + (15) = ((108 : Nat) : Int) := ⟨by decide +kernel, rfl, by decide⟩
theorem dMO_nameFaults_96 : decode b_MO_nameFaults 96 = .ok (.aload_n 0, 1) ∧ 96 + 1 = 97 := ⟨by decide +kernel, rfl⟩
theorem dMO_nameFaults_97 : decode b_MO_nameFaults 97 = .ok (.bipush (15), 2) ∧ 97 + 2 = 99 := ⟨by decide +kernel, rfl⟩
theorem dMO_nameFaults_99 : decode b_MO_nameFaults 99 = .ok (.iload_n 2, 1) ∧ 99 + 1 = 100 := ⟨by decide +kernel, rfl⟩
theorem dMO_nameFaults_100 : decode b_MO_nameFaults 100 = .ok (.iload_n 3, 1) ∧ 100 + 1 = 101 := ⟨by decide +kernel, rfl⟩
theorem dMO_nameFaults_101 : decode b_MO_nameFaults 101 = .ok (.iadd, 1) ∧ 101 + 1 = 102 := ⟨by decide +kernel, rfl⟩
theorem dMO_nameFaults_102 : decode b_MO_nameFaults 102 = .ok (.iconst 1, 1) ∧ 102 + 1 = 103 := ⟨by decide +kernel, rfl⟩
theorem dMO_nameFaults_103 : decode b_MO_nameFaults 103 = .ok (.isub, 1) ∧ 103 + 1 = 104 := ⟨by decide +kernel, rfl⟩
theorem dMO_nameFaults_104 : decode b_MO_nameFaults 104 = .ok (.invokevirtual 264, 3) ∧ 104 + 3 = 107 := ⟨by decide +kernel, rfl⟩
theorem dMO_nameFaults_107 : decode b_MO_nameFaults 107 = .ok (.ireturn, 1) ∧ 107 + 1 = 108 := ⟨by decide +kernel, rfl⟩
theorem dMO_nameFaults_108 : decode b_MO_nameFaults 108 = .ok (.iconst 0, 1) ∧ 108 + 1 = 109 := ⟨by decide +kernel, rfl⟩
theorem dMO_nameFaults_109 : decode b_MO_nameFaults 109 = .ok (.istore 4, 2) ∧ 109 + 2 = 111 := ⟨by decide +kernel, rfl⟩
theorem dMO_nameFaults_111 : decode b_MO_nameFaults 111 = .ok (.iload 4, 2) ∧ 111 + 2 = 113 := ⟨by decide +kernel, rfl⟩
theorem dMO_nameFaults_113 : decode b_MO_nameFaults 113 = .ok (.bipush (11), 2) ∧ 113 + 2 = 115 := ⟨by decide +kernel, rfl⟩
theorem dMO_nameFaults_115 : decode b_MO_nameFaults 115 = .ok (.if_icmp .ge (17), 3) ∧ 115 + 3 = 118 ∧ ((115 : Nat) : Int) + (17) = ((132 : Nat) : Int) := ⟨by decide +kernel, rfl, by decide⟩
theorem dMO_nameFaults_118 : decode b_MO_nameFaults 118 = .ok (.aload_n 0, 1) ∧ 118 + 1 = 119 := ⟨by decide +kernel, rfl⟩
theorem dMO_nameFaults_119 : decode b_MO_nameFaults 119 = .ok (.getfield 107, 3) ∧ 119 + 3 = 122 := ⟨by decide +kernel, rfl⟩
theorem dMO_nameFaults_122 : decode b_MO_nameFaults 122 = .ok (.iload 4, 2) ∧ 122 + 2 = 124 := ⟨by decide +kernel, rfl⟩
theorem dMO_nameFaults_124 : decode b_MO_nameFaults 124 = .ok (.iconst 0, 1) ∧ 124 + 1 = 125 := ⟨by decide +kernel, rfl⟩
theorem dMO_nameFaults_125 : decode b_MO_nameFaults 125 = .ok (.iastore, 1) ∧ 125 + 1 = 126 := ⟨by decide +kernel, rfl⟩
theorem dMO_nameFaults_126 : decode b_MO_nameFaults 126 = .ok (.iinc 4 (1), 3) ∧ 126 + 3 = 129 := ⟨by decide +kernel, rfl⟩
theorem dMO_nameFaults_129 : decode b_MO_nameFaults 129 = .ok (.goto (-18), 3) ∧ 129 + 3 = 132 ∧ ((129 : Nat) : Int) + (-18) = ((111 : Nat) : Int) := ⟨by decide +kernel, rfl, by decide⟩
theorem dMO_nameFaults_132 : decode b_MO_nameFaults 132 = .ok (.iconst 1, 1) ∧ 132 + 1 = 133 := ⟨by decide +kernel, rfl⟩
theorem dMO_nameFaults_133 : decode b_MO_nameFaults 133 = .ok (.istore 4, 2) ∧ 133 + 2 = 135 := ⟨by decide +kernel, rfl⟩
theorem dMO_nameFaults_135 : decode b_MO_nameFaults 135 = .ok (.iload 4, 2) ∧ 135 + 2 = 137 := ⟨by decide +kernel, rfl⟩
theorem dMO_nameFaults_137 : decode b_MO_nameFaults 137 = .ok (.aload_n 0, 1) ∧ 137 + 1 = 138 := ⟨by decide +kernel, rfl⟩
theorem dMO_nameFaults_138 : decode b_MO_nameFaults 138 = .ok (.getfield 195, 3) ∧ 138 + 3 = 141 := ⟨by decide +kernel, rfl⟩
theorem dMO_nameFaults_141 : decode b_MO_nameFaults 141 = .ok (.if_icmp .ge (142), 3) ∧ 141 + 3 = 144 ∧ ((141 : Nat) : Int) + (142) = ((283 : Nat) : Int) := ⟨by decide +kernel, rfl, by decide⟩
theorem dMO_nameFaults_144 : decode b_MO_nameFaults 144 = .ok (.aload_n 0, 1) ∧ 144 + 1 = 145 := ⟨by decide +kernel, rfl⟩
theorem dMO_nameFaults_145 : decode b_MO_nameFaults 145 = .ok (.getfield 110, 3) ∧ 145 + 3 = 148 := ⟨by decide +kernel, rfl⟩
theorem dMO_nameFaults_148 : decode b_MO_nameFaults 148 = .ok (.iload 4, 2) ∧ 148 + 2 = 150 := ⟨by decide +kernel, rfl⟩
theorem dMO_nameFaults_150 : decode b_MO_nameFaults 150 = .ok (.iconst (-1), 1) ∧ 150 + 1 = 151 := ⟨by decide +kernel, rfl⟩
theorem dMO_nameFaults_151 : decode b_MO_nameFaults 151 = .ok (.iastore, 1) ∧ 151 + 1 = 152 := ⟨by decide +kernel, rfl⟩
theorem dMO_nameFaults_152 : decode b_MO_nameFaults 152 = .ok (.aload_n 0, 1) ∧ 152 + 1 = 153 := ⟨by decide +kernel, rfl⟩
theorem dMO_nameFaults_153 : decode b_MO_nameFaults 153 = .ok (.iload 4, 2) ∧ 153 + 2 = 155 := ⟨by decide +kernel, rfl⟩
theorem dMO_nameFaults_155 : decode b_MO_nameFaults 155 = .ok (.iconst 0, 1) ∧ 155 + 1 = 156 := ⟨by decide +kernel, rfl⟩
theorem dMO_nameFaults_156 : decode b_MO_nameFaults 156 = .ok (.invokevirtual 273, 3) ∧ 156 + 3 = 159 := ⟨by decide +kernel, rfl⟩
theorem dMO_nameFaults_159 : decode b_MO_nameFaults 159 = .ok (.iload_n 3, 1) ∧ 159 + 1 = 160 := ⟨by decide +kernel, rfl⟩
theorem dMO_nameFaults_160 : decode b_MO_nameFaults 160 = .ok (.i2l, 1) ∧ 160 + 1 = 161 := ⟨by decide +kernel, rfl⟩
theorem dMO_nameFaults_161 : decode b_MO_nameFaults 161 = .ok (.lcmp, 1) ∧ 161 + 1 = 162 := ⟨by decide +kernel, rfl⟩
theorem dMO_nameFaults_162 : decode b_MO_nameFaults 162 = .ok (.ifCond .lt (17), 3) ∧ 162 + 3 = 165 ∧ ((162 : Nat) : Int) + (17) = ((179 : Nat) : Int) := ⟨by decide +kernel, rfl, by decide⟩
theorem dMO_nameFaults_165 : decode b_MO_nameFaults 165 = .ok (.aload_n 0, 1) ∧ 165 + 1 = 166 := ⟨by decide +kernel, rfl⟩
theorem dMO_nameFaults_166 : decode b_MO_nameFaults 166 = .ok (.bipush (16), 2) ∧ 166 + 2 = 168 := ⟨by decide +kernel, rfl⟩
theorem dMO_nameFaults_168 : decode b_MO_nameFaults 168 = .ok (.aload_n 0, 1) ∧ 168 + 1 = 169 := ⟨by decide +kernel, rfl⟩
theorem dMO_nameFaults_169 : decode b_MO_nameFaults 169 = .ok (.iload 4, 2) ∧ 169 + 2 = 171 := ⟨by decide +kernel, rfl⟩
theorem dMO_nameFaults_171 : decode b_MO_nameFaults 171 = .ok (.iconst 0, 1) ∧ 171 + 1 = 172 := ⟨by decide +kernel, rfl⟩
theorem dMO_nameFaults_172 : decode b_MO_nameFaults 172 = .ok (.invokevirtual 257, 3) ∧ 172 + 3 = 175 := ⟨by decide +kernel, rfl⟩
theorem dMO_nameFaults_175 : decode b_MO_nameFaults 175 = .ok (.invokevirtual 264, 3) ∧ 175 + 3 = 178 := ⟨by decide +kernel, rfl⟩
theorem dMO_nameFaults_178 : decode b_MO_nameFaults 178 = .ok (.ireturn, 1) ∧ 178 + 1 = 179 := ⟨by decide +kernel, rfl⟩
theorem dMO_nameFaults_179 : decode b_MO_nameFaults 179 = .ok (.iconst 0, 1) ∧ 179 + 1 = 180 := ⟨by decide +kernel, rfl⟩
theorem dMO_nameFaults_180 : decode b_MO_nameFaults 180 = .ok (.istore 5, 2) ∧ 180 + 2 = 182 := ⟨by decide +kernel, rfl⟩
theorem dMO_nameFaults_182 : decode b_MO_nameFaults 182 = .ok (.iload 5, 2) ∧ 182 + 2 = 184 := ⟨by decide +kernel, rfl⟩
theorem dMO_nameFaults_184 : decode b_MO_nameFaults 184 = .ok (.bipush (11), 2) ∧ 184 + 2 = 186 := ⟨by decide +kernel, rfl⟩
theorem dMO_nameFaults_186 : decode b_MO_nameFaults 186 = .ok (.if_icmp .ge (37), 3) ∧ 186 + 3 = 189 ∧ ((186 : Nat) : Int) + (37) = ((223 : Nat) : Int) := ⟨by decide +kernel, rfl, by decide⟩
theorem dMO_nameFaults_189 : decode b_MO_nameFaults 189 = .ok (.aload_n 0, 1) ∧ 189 + 1 = 190 := ⟨by decide +kernel, rfl⟩
theorem dMO_nameFaults_190 : decode b_MO_nameFaults 190 = .ok (.iload 5, 2) ∧ 190 + 2 = 192 := ⟨by decide +kernel, rfl⟩
theorem dMO_nameFaults_192 : decode b_MO_nameFaults 192 = .ok (.iload_n 2, 1) ∧ 192 + 1 = 193 := ⟨by decide +kernel, rfl⟩
theorem dMO_nameFaults_193 : decode b_MO_nameFaults 193 = .ok (.aload_n 0, 1) ∧ 193 + 1 = 194 := ⟨by decide +kernel, rfl⟩
theorem dMO_nameFaults_194 : decode b_MO_nameFaults 194 = .ok (.iload 4, 2) ∧ 194 + 2 = 196 := ⟨by decide +kernel, rfl⟩
theorem dMO_nameFaults_196 : decode b_MO_nameFaults 196 = .ok (.iconst 0, 1) ∧ 196 + 1 = 197 := ⟨by decide +kernel, rfl⟩
theorem dMO_nameFaults_197 : decode b_MO_nameFaults 197 = .ok (.invokevirtual 273, 3) ∧ 197 + 3 = 200 := ⟨by decide +kernel, rfl⟩
theorem dMO_nameFaults_200 : decode b_MO_nameFaults 200 = .ok (.l2i, 1) ∧ 200 + 1 = 201 := ⟨by decide +kernel, rfl⟩
theorem dMO_nameFaults_201 : decode b_MO_nameFaults 201 = .ok (.iadd, 1) ∧ 201 + 1 = 202 := ⟨by decide +kernel, rfl⟩
theorem dMO_nameFaults_202 : decode b_MO_nameFaults 202 = .ok (.invokevirtual 287, 3) ∧ 202 + 3 = 205 := ⟨by decide +kernel, rfl⟩
theorem dMO_nameFaults_205 : decode b_MO_nameFaults 205 = .ok (.ifCond .eq (12), 3) ∧ 205 + 3 = 208 ∧ ((205 : Nat) : Int) + (12) = ((217 : Nat) : Int) := ⟨by decide +kernel, rfl, by decide⟩
theorem dMO_nameFaults_208 : decode b_MO_nameFaults 208 = .ok (.aload_n 0, 1) ∧ 208 + 1 = 209 := ⟨by decide +kernel, rfl⟩
theorem dMO_nameFaults_209 : decode b_MO_nameFaults 209 = .ok (.getfield 110, 3) ∧ 209 + 3 = 212 := ⟨by decide +kernel, rfl⟩
theorem dMO_nameFaults_212 : decode b_MO_nameFaults 212 = .ok (.iload 4, 2) ∧ 212 + 2 = 214 := ⟨by decide +kernel, rfl⟩
theorem dMO_nameFaults_214 : decode b_MO_nameFaults 214 = .ok (.iload 5, 2) ∧ 214 + 2 = 216 := ⟨by decide +kernel, rfl⟩
theorem dMO_nameFaults_216 : decode b_MO_nameFaults 216 = .ok (.iastore, 1) ∧ 216 + 1 = 217 := ⟨by decide +kernel, rfl⟩
theorem dMO_nameFaults_217 : decode b_MO_nameFaults 217 = .ok (.iinc 5 (1), 3) ∧ 217 + 3 = 220 := ⟨by decide +kernel, rfl⟩
theorem dMO_nameFaults_220 : decode b_MO_nameFaults 220 = .ok (.goto (-38), 3) ∧ 220 + 3 = 223 ∧ ((220 : Nat) : Int) + (-38) = ((182 : Nat) : Int) := ⟨by decide +kernel, rfl, by decide⟩
theorem dMO_nameFaults_223 : decode b_MO_nameFaults 223 = .ok (.aload_n 0, 1) ∧ 223 + 1 = 224 := ⟨by decide +kernel, rfl⟩
theorem dMO_nameFaults_224 : decode b_MO_nameFaults 224 = .ok (.getfield 110, 3) ∧ 224 + 3 = 227 := ⟨by decide +kernel, rfl⟩
theorem dMO_nameFaults_227 : decode b_MO_nameFaults 227 = .ok (.iload 4, 2) ∧ 227 + 2 = 229 := ⟨by decide +kernel, rfl⟩
theorem dMO_nameFaults_229 : decode b_MO_nameFaults 229 = .ok (.iaload, 1) ∧ 229 + 1 = 230 := ⟨by decide +kernel, rfl⟩
theorem dMO_nameFaults_230 : decode b_MO_nameFaults 230 = .ok (.iconst (-1), 1) ∧ 230 + 1 = 231 := ⟨by decide +kernel, rfl⟩
theorem dMO_nameFaults_231 : decode b_MO_nameFaults 231 = .ok (.if_icmp .eq (18), 3) ∧ 231 + 3 = 234 ∧ ((231 : Nat) : Int) + (18) = ((249 : Nat) : Int) := ⟨by decide +kernel, rfl, by decide⟩
theorem dMO_nameFaults_234 : decode b_MO_nameFaults 234 = .ok (.aload_n 0, 1) ∧ 234 + 1 = 235 := ⟨by decide +kernel, rfl⟩
theorem dMO_nameFaults_235 : decode b_MO_nameFaults 235 = .ok (.getfield 107, 3) ∧ 235 + 3 = 238 := ⟨by decide +kernel, rfl⟩
theorem dMO_nameFaults_238 : decode b_MO_nameFaults 238 = .ok (.aload_n 0, 1) ∧ 238 + 1 = 239 := ⟨by decide +kernel, rfl⟩
theorem dMO_nameFaults_239 : decode b_MO_nameFaults 239 = .ok (.getfield 110, 3) ∧ 239 + 3 = 242 := ⟨by decide +kernel, rfl⟩
theorem dMO_nameFaults_242 : decode b_MO_nameFaults 242 = .ok (.iload 4, 2) ∧ 242 + 2 = 244 := ⟨by decide +kernel, rfl⟩
theorem dMO_nameFaults_244 : decode b_MO_nameFaults 244 = .ok (.iaload, 1) ∧ 244 + 1 = 245 := ⟨by decide +kernel, rfl⟩
theorem dMO_nameFaults_245 : decode b_MO_nameFaults 245 = .ok (.iaload, 1) ∧ 245 + 1 = 246 := ⟨by decide +kernel, rfl⟩
theorem dMO_nameFaults_246 : decode b_MO_nameFaults 246 = .ok (.ifCond .eq (17), 3) ∧ 246 + 3 = 249 ∧ ((246 : Nat) : Int) + (17) = ((263 : Nat) : Int) := ⟨by decide +kernel, rfl, by decide⟩
theorem dMO_nameFaults_249 : decode b_MO_nameFaults 249 = .ok (.aload_n 0, 1) ∧ 249 + 1 = 250 := ⟨by decide +kernel, rfl⟩
theorem dMO_nameFaults_250 : decode b_MO_nameFaults 250 = .ok (.bipush (16), 2) ∧ 250 + 2 = 252 := ⟨by decide +kernel, rfl⟩
theorem dMO_nameFaults_252 : decode b_MO_nameFaults 252 = .ok (.aload_n 0, 1) ∧ 252 + 1 = 253 := ⟨by decide +kernel, rfl⟩
theorem dMO_nameFaults_253 : decode b_MO_nameFaults 253 = .ok (.iload 4, 2) ∧ 253 + 2 = 255 := ⟨by decide +kernel, rfl⟩
theorem dMO_nameFaults_255 : decode b_MO_nameFaults 255 = .ok (.iconst 0, 1) ∧ 255 + 1 = 256 := ⟨by decide +kernel, rfl⟩
theorem dMO_nameFaults_256 : decode b_MO_nameFaults 256 = .ok (.invokevirtual 257, 3) ∧ 256 + 3 = 259 := ⟨by decide +kernel, rfl⟩
theorem dMO_nameFaults_259 : decode b_MO_nameFaults 259 = .ok (.invokevirtual 264, 3) ∧ 259 + 3 = 262 := ⟨by decide +kernel, rfl⟩
theorem dMO_nameFaults_262 : decode b_MO_nameFaults 262 = .ok (.ireturn, 1) ∧ 262 + 1 = 263 := ⟨by decide +kernel, rfl⟩
theorem dMO_nameFaults_263 : decode b_MO_nameFaults 263 = .ok (.aload_n 0, 1) ∧ 263 + 1 = 264 := ⟨by decide +kernel, rfl⟩
theorem dMO_nameFaults_264 : decode b_MO_nameFaults 264 = .ok (.getfield 107, 3) ∧ 264 + 3 = 267 := ⟨by decide +kernel, rfl⟩
theorem dMO_nameFaults_267 : decode b_MO_nameFaults 267 = .ok (.aload_n 0, 1) ∧ 267 + 1 = 268 := ⟨by decide +kernel, rfl⟩
theorem dMO_nameFaults_268 : decode b_MO_nameFaults 268 = .ok (.getfield 110, 3) ∧ 268 + 3 = 271 := ⟨by decide +kernel, rfl⟩
theorem dMO_nameFaults_271 : decode b_MO_nameFaults 271 = .ok (.iload 4, 2) ∧ 271 + 2 = 273 := ⟨by decide +kernel, rfl⟩
theorem dMO_nameFaults_273 : decode b_MO_nameFaults 273 = .ok (.iaload, 1) ∧ 273 + 1 = 274 := ⟨by decide +kernel, rfl⟩
theorem dMO_nameFaults_274 : decode b_MO_nameFaults 274 = .ok (.iload 4, 2) ∧ 274 + 2 = 276 := ⟨by decide +kernel, rfl⟩
theorem dMO_nameFaults_276 : decode b_MO_nameFaults 276 = .ok (.iastore, 1) ∧ 276 + 1 = 277 := ⟨by decide +kernel, rfl⟩
theorem dMO_nameFaults_277 : decode b_MO_nameFaults 277 = .ok (.iinc 4 (1), 3) ∧ 277 + 3 = 280 := ⟨by decide +kernel, rfl⟩
theorem dMO_nameFaults_280 : decode b_MO_nameFaults 280 = .ok (.goto (-145), 3) ∧ 280 + 3 = 283 ∧ ((280 : Nat) : Int) + (-145) = ((135 : Nat) : Int) := ⟨by decide +kernel, rfl, by decide⟩
theorem dMO_nameFaults_283 : decode b_MO_nameFaults 283 = .ok (.iconst 0, 1) ∧ 283 + 1 = 284 := ⟨by decide +kernel, rfl⟩
theorem dMO_nameFaults_284 : decode b_MO_nameFaults 284 = .ok (.ireturn, 1) ∧ 284 + 1 = 285 := ⟨by decide +kernel, rfl⟩
theorem dMO_bytesOf_0 : decode b_MO_bytesOf 0 = .ok (.aload_n 0, 1) ∧ 0 + 1 = 1 := ⟨by decide +kernel, rfl⟩
theorem dMO_bytesOf_1 : decode b_MO_bytesOf 1 = .ok (.getfield 107, 3) ∧ 1 + 3 = 4 := ⟨by decide +kernel, rfl⟩
theorem dMO_bytesOf_4 : decode b_MO_bytesOf 4 = .ok (.iload_n 1, 1) ∧ 4 + 1 = 5 := ⟨by decide +kernel, rfl⟩
theorem dMO_bytesOf_5 : decode b_MO_bytesOf 5 = .ok (.iaload, 1) ∧ 5 + 1 = 6 := ⟨by decide +kernel, rfl⟩
theorem dMO_bytesOf_6 : decode b_MO_bytesOf 6 = .ok (.ifCond .ne (7), 3) ∧ 6 + 3 = 9 ∧ ((6 : Nat) : Int) + (7) = ((13 : Nat) : Int) := ⟨by decide +kernel, rfl, by decide⟩
theorem dMO_bytesOf_9 : decode b_MO_bytesOf 9 = .ok (.lconst 0, 1) ∧ 9 + 1 = 10 := ⟨by decide +kernel, rfl⟩
theorem dMO_bytesOf_10 : decode b_MO_bytesOf 10 = .ok (.goto (14), 3) ∧ 10 + 3 = 13 ∧ ((10 : Nat) : Int) + (14) = ((24 : Nat) : Int) := ⟨by decide +kernel, rfl, by decide⟩
theorem dMO_bytesOf_13 : decode b_MO_bytesOf 13 = .ok (.aload_n 0, 1) ∧ 13 + 1 = 14 := ⟨by decide +kernel, rfl⟩
theorem dMO_bytesOf_14 : decode b_MO_bytesOf 14 = .ok (.aload_n 0, 1) ∧ 14 + 1 = 15 := ⟨by decide +kernel, rfl⟩
theorem dMO_bytesOf_15 : decode b_MO_bytesOf 15 = .ok (.getfield 107, 3) ∧ 15 + 3 = 18 := ⟨by decide +kernel, rfl⟩
theorem dMO_bytesOf_18 : decode b_MO_bytesOf 18 = .ok (.iload_n 1, 1) ∧ 18 + 1 = 19 := ⟨by decide +kernel, rfl⟩
theorem dMO_bytesOf_19 : decode b_MO_bytesOf 19 = .ok (.iaload, 1) ∧ 19 + 1 = 20 := ⟨by decide +kernel, rfl⟩
theorem dMO_bytesOf_20 : decode b_MO_bytesOf 20 = .ok (.iconst 5, 1) ∧ 20 + 1 = 21 := ⟨by decide +kernel, rfl⟩
theorem dMO_bytesOf_21 : decode b_MO_bytesOf 21 = .ok (.invokevirtual 273, 3) ∧ 21 + 3 = 24 := ⟨by decide +kernel, rfl⟩
theorem dMO_bytesOf_24 : decode b_MO_bytesOf 24 = .ok (.lreturn, 1) ∧ 24 + 1 = 25 := ⟨by decide +kernel, rfl⟩
theorem dMO_from_0 : decode b_MO_from 0 = .ok (.aload_n 0, 1) ∧ 0 + 1 = 1 := ⟨by decide +kernel, rfl⟩
theorem dMO_from_1 : decode b_MO_from 1 = .ok (.getfield 107, 3) ∧ 1 + 3 = 4 := ⟨by decide +kernel, rfl⟩
theorem dMO_from_4 : decode b_MO_from 4 = .ok (.iload_n 1, 1) ∧ 4 + 1 = 5 := ⟨by decide +kernel, rfl⟩
theorem dMO_from_5 : decode b_MO_from 5 = .ok (.iaload, 1) ∧ 5 + 1 = 6 := ⟨by decide +kernel, rfl⟩
theorem dMO_from_6 : decode b_MO_from 6 = .ok (.ifCond .ne (7), 3) ∧ 6 + 3 = 9 ∧ ((6 : Nat) : Int) + (7) = ((13 : Nat) : Int) := ⟨by decide +kernel, rfl, by decide⟩
theorem dMO_from_9 : decode b_MO_from 9 = .ok (.iconst 0, 1) ∧ 9 + 1 = 10 := ⟨by decide +kernel, rfl⟩
theorem dMO_from_10 : decode b_MO_from 10 = .ok (.goto (15), 3) ∧ 10 + 3 = 13 ∧ ((10 : Nat) : Int) + (15) = ((25 : Nat) : Int) := ⟨by decide +kernel, rfl, by decide⟩
theorem dMO_from_13 : decode b_MO_from 13 = .ok (.aload_n 0, 1) ∧ 13 + 1 = 14 := ⟨by decide +kernel, rfl⟩
theorem dMO_from_14 : decode b_MO_from 14 = .ok (.aload_n 0, 1) ∧ 14 + 1 = 15 := ⟨by decide +kernel, rfl⟩
theorem dMO_from_15 : decode b_MO_from 15 = .ok (.getfield 107, 3) ∧ 15 + 3 = 18 := ⟨by decide +kernel, rfl⟩
theorem dMO_from_18 : decode b_MO_from 18 = .ok (.iload_n 1, 1) ∧ 18 + 1 = 19 := ⟨by decide +kernel, rfl⟩
theorem dMO_from_19 : decode b_MO_from 19 = .ok (.iaload, 1) ∧ 19 + 1 = 20 := ⟨by decide +kernel, rfl⟩
theorem dMO_from_20 : decode b_MO_from 20 = .ok (.iconst 4, 1) ∧ 20 + 1 = 21 := ⟨by decide +kernel, rfl⟩
theorem dMO_from_21 : decode b_MO_from 21 = .ok (.invokevirtual 273, 3) ∧ 21 + 3 = 24 := ⟨by decide +kernel, rfl⟩
theorem dMO_from_24 : decode b_MO_from 24 = .ok (.l2i, 1) ∧ 24 + 1 = 25 := ⟨by decide +kernel, rfl⟩
theorem dMO_from_25 : decode b_MO_from 25 = .ok (.ireturn, 1) ∧ 25 + 1 = 26 := ⟨by decide +kernel, rfl⟩
theorem dMO_sizeFaults_0 : decode b_MO_sizeFaults 0 = .ok (.aload_n 0, 1) ∧ 0 + 1 = 1 := ⟨by decide +kernel, rfl⟩
theorem dMO_sizeFaults_1 : decode b_MO_sizeFaults 1 = .ok (.getfield 107, 3) ∧ 1 + 3 = 4 := ⟨by decide +kernel, rfl⟩
theorem dMO_sizeFaults_4 : decode b_MO_sizeFaults 4 = .ok (.bipush (8), 2) ∧ 4 + 2 = 6 := ⟨by decide +kernel, rfl⟩
theorem dMO_sizeFaults_6 : decode b_MO_sizeFaults 6 = .ok (.iaload, 1) ∧ 6 + 1 = 7 := ⟨by decide +kernel, rfl⟩
theorem dMO_sizeFaults_7 : decode b_MO_sizeFaults 7 = .ok (.ifCond .eq (39), 3) ∧ 7 + 3 = 10 ∧ ((7 : Nat) : Int) + (39) = ((46 : Nat) : Int) := ⟨by decide +kernel, rfl, by decide⟩
theorem dMO_sizeFaults_10 : decode b_MO_sizeFaults 10 = .ok (.aload_n 0, 1) ∧ 10 + 1 = 11 := ⟨by decide +kernel, rfl⟩
theorem dMO_sizeFaults_11 : decode b_MO_sizeFaults 11 = .ok (.getfield 107, 3) ∧ 11 + 3 = 14 := ⟨by decide +kernel, rfl⟩
theorem dMO_sizeFaults_14 : decode b_MO_sizeFaults 14 = .ok (.bipush (9), 2) ∧ 14 + 2 = 16 := ⟨by decide +kernel, rfl⟩
theorem dMO_sizeFaults_16 : decode b_MO_sizeFaults 16 = .ok (.iaload, 1) ∧ 16 + 1 = 17 := ⟨by decide +kernel, rfl⟩
theorem dMO_sizeFaults_17 : decode b_MO_sizeFaults 17 = .ok (.ifCond .eq (29), 3) ∧ 17 + 3 = 20 ∧ ((17 : Nat) : Int) + (29) = ((46 : Nat) : Int) := ⟨by decide +kernel, rfl, by decide⟩
theorem dMO_sizeFaults_20 : decode b_MO_sizeFaults 20 = .ok (.aload_n 0, 1) ∧ 20 + 1 = 21 := ⟨by decide +kernel, rfl⟩
theorem dMO_sizeFaults_21 : decode b_MO_sizeFaults 21 = .ok (.getfield 107, 3) ∧ 21 + 3 = 24 := ⟨by decide +kernel, rfl⟩
theorem dMO_sizeFaults_24 : decode b_MO_sizeFaults 24 = .ok (.bipush (10), 2) ∧ 24 + 2 = 26 := ⟨by decide +kernel, rfl⟩
theorem dMO_sizeFaults_26 : decode b_MO_sizeFaults 26 = .ok (.iaload, 1) ∧ 26 + 1 = 27 := ⟨by decide +kernel, rfl⟩
theorem dMO_sizeFaults_27 : decode b_MO_sizeFaults 27 = .ok (.ifCond .eq (19), 3) ∧ 27 + 3 = 30 ∧ ((27 : Nat) : Int) + (19) = ((46 : Nat) : Int) := ⟨by decide +kernel, rfl, by decide⟩
theorem dMO_sizeFaults_30 : decode b_MO_sizeFaults 30 = .ok (.aload_n 0, 1) ∧ 30 + 1 = 31 := ⟨by decide +kernel, rfl⟩
theorem dMO_sizeFaults_31 : decode b_MO_sizeFaults 31 = .ok (.getfield 107, 3) ∧ 31 + 3 = 34 := ⟨by decide +kernel, rfl⟩
theorem dMO_sizeFaults_34 : decode b_MO_sizeFaults 34 = .ok (.bipush (10), 2) ∧ 34 + 2 = 36 := ⟨by decide +kernel, rfl⟩
theorem dMO_sizeFaults_36 : decode b_MO_sizeFaults 36 = .ok (.iaload, 1) ∧ 36 + 1 = 37 := ⟨by decide +kernel, rfl⟩
theorem dMO_sizeFaults_37 : decode b_MO_sizeFaults 37 = .ok (.aload_n 0, 1) ∧ 37 + 1 = 38 := ⟨by decide +kernel, rfl⟩
theorem dMO_sizeFaults_38 : decode b_MO_sizeFaults 38 = .ok (.bipush (50), 2) ∧ 38 + 2 = 40 := ⟨by decide +kernel, rfl⟩
theorem dMO_sizeFaults_40 : decode b_MO_sizeFaults 40 = .ok (.invokevirtual 249, 3) ∧ 40 + 3 = 43 := ⟨by decide +kernel, rfl⟩
theorem dMO_sizeFaults_43 : decode b_MO_sizeFaults 43 = .ok (.if_icmp .eq (12), 3) ∧ 43 + 3 = 46 ∧ ((43 : Nat) : Int) + (12) = ((55 : Nat) : Int) := ⟨by decide +kernel, rfl, by decide⟩
theorem dMO_sizeFaults_46 : decode b_MO_sizeFaults 46 = .ok (.aload_n 0, 1) ∧ 46 + 1 = 47 := ⟨by decide +kernel, rfl⟩
theorem dMO_sizeFaults_47 : decode b_MO_sizeFaults 47 = .ok (.bipush (18), 2) ∧ 47 + 2 = 49 := ⟨by decide +kernel, rfl⟩
theorem dMO_sizeFaults_49 : decode b_MO_sizeFaults 49 = .ok (.bipush (50), 2) ∧ 49 + 2 = 51 := ⟨by decide +kernel, rfl⟩
theorem dMO_sizeFaults_51 : decode b_MO_sizeFaults 51 = .ok (.invokevirtual 264, 3) ∧ 51 + 3 = 54 := ⟨by decide +kernel, rfl⟩
theorem dMO_sizeFaults_54 : decode b_MO_sizeFaults 54 = .ok (.ireturn, 1) ∧ 54 + 1 = 55 := ⟨by decide +kernel, rfl⟩
theorem dMO_sizeFaults_55 : decode b_MO_sizeFaults 55 = .ok (.lconst 0, 1) ∧ 55 + 1 = 56 := ⟨by decide +kernel, rfl⟩
theorem dMO_sizeFaults_56 : decode b_MO_sizeFaults 56 = .ok (.lstore_n 1, 1) ∧ 56 + 1 = 57 := ⟨by decide +kernel, rfl⟩
theorem dMO_sizeFaults_57 : decode b_MO_sizeFaults 57 = .ok (.iconst 1, 1) ∧ 57 + 1 = 58 := ⟨by decide +kernel, rfl⟩
theorem dMO_sizeFaults_58 : decode b_MO_sizeFaults 58 = .ok (.istore_n 3, 1) ∧ 58 + 1 = 59 := ⟨by decide +kernel, rfl⟩
theorem dMO_sizeFaults_59 : decode b_MO_sizeFaults 59 = .ok (.iload_n 3, 1) ∧ 59 + 1 = 60 := ⟨by decide +kernel, rfl⟩
theorem dMO_sizeFaults_60 : decode b_MO_sizeFaults 60 = .ok (.aload_n 0, 1) ∧ 60 + 1 = 61 := ⟨by decide +kernel, rfl⟩
theorem dMO_sizeFaults_61 : decode b_MO_sizeFaults 61 = .ok (.getfield 195, 3) ∧ 61 + 3 = 64 := ⟨by decide +kernel, rfl⟩
theorem dMO_sizeFaults_64 : decode b_MO_sizeFaults 64 = .ok (.if_icmp .ge (236), 3) ∧ 64 + 3 = 67 ∧ ((64 : Nat) : Int) + (236) = ((300 : Nat) : Int) := ⟨by decide +kernel, rfl, by decide⟩
theorem dMO_sizeFaults_67 : decode b_MO_sizeFaults 67 = .ok (.aload_n 0, 1) ∧ 67 + 1 = 68 := ⟨by decide +kernel, rfl⟩
theorem dMO_sizeFaults_68 : decode b_MO_sizeFaults 68 = .ok (.getfield 110, 3) ∧ 68 + 3 = 71 := ⟨by decide +kernel, rfl⟩
theorem dMO_sizeFaults_71 : decode b_MO_sizeFaults 71 = .ok (.iload_n 3, 1) ∧ 71 + 1 = 72 := ⟨by decide +kernel, rfl⟩
theorem dMO_sizeFaults_72 : decode b_MO_sizeFaults 72 = .ok (.iaload, 1) ∧ 72 + 1 = 73 := ⟨by decide +kernel, rfl⟩
theorem dMO_sizeFaults_73 : decode b_MO_sizeFaults 73 = .ok (.istore 4, 2) ∧ 73 + 2 = 75 := ⟨by decide +kernel, rfl⟩
theorem dMO_sizeFaults_75 : decode b_MO_sizeFaults 75 = .ok (.aload_n 0, 1) ∧ 75 + 1 = 76 := ⟨by decide +kernel, rfl⟩
theorem dMO_sizeFaults_76 : decode b_MO_sizeFaults 76 = .ok (.iload_n 3, 1) ∧ 76 + 1 = 77 := ⟨by decide +kernel, rfl⟩
theorem dMO_sizeFaults_77 : decode b_MO_sizeFaults 77 = .ok (.iconst 5, 1) ∧ 77 + 1 = 78 := ⟨by decide +kernel, rfl⟩
theorem dMO_sizeFaults_78 : decode b_MO_sizeFaults 78 = .ok (.invokevirtual 273, 3) ∧ 78 + 3 = 81 := ⟨by decide +kernel, rfl⟩
theorem dMO_sizeFaults_81 : decode b_MO_sizeFaults 81 = .ok (.lstore 5, 2) ∧ 81 + 2 = 83 := ⟨by decide +kernel, rfl⟩
theorem dMO_sizeFaults_83 : decode b_MO_sizeFaults 83 = .ok (.iload 4, 2) ∧ 83 + 2 = 85 := ⟨by decide +kernel, rfl⟩
theorem dMO_sizeFaults_85 : decode b_MO_sizeFaults 85 = .ok (.iconst 5, 1) ∧ 85 + 1 = 86 := ⟨by decide +kernel, rfl⟩
theorem dMO_sizeFaults_86 : decode b_MO_sizeFaults 86 = .ok (.if_icmp .lt (14), 3) ∧ 86 + 3 = 89 ∧ ((86 : Nat) : Int) + (14) = ((100 : Nat) : Int) := ⟨by decide +kernel, rfl, by decide⟩
theorem dMO_sizeFaults_89 : decode b_MO_sizeFaults 89 = .ok (.iload 4, 2) ∧ 89 + 2 = 91 := ⟨by decide +kernel, rfl⟩
theorem dMO_sizeFaults_91 : decode b_MO_sizeFaults 91 = .ok (.bipush (8), 2) ∧ 91 + 2 = 93 := ⟨by decide +kernel, rfl⟩
theorem dMO_sizeFaults_93 : decode b_MO_sizeFaults 93 = .ok (.if_icmp .ge (7), 3) ∧ 93 + 3 = 96 ∧ ((93 : Nat) : Int) + (7) = ((100 : Nat) : Int) := ⟨by decide +kernel, rfl, by decide⟩
theorem dMO_sizeFaults_96 : decode b_MO_sizeFaults 96 = .ok (.iconst 1, 1) ∧ 96 + 1 = 97 := ⟨by decide +kernel, rfl⟩
theorem dMO_sizeFaults_97 : decode b_MO_sizeFaults 97 = .ok (.goto (4), 3) ∧ 97 + 3 = 100 ∧ ((97 : Nat) : Int) + (4) = ((101 : Nat) : Int) := ⟨by decide +kernel, rfl, by decide⟩
theorem dMO_sizeFaults_100 : decode b_MO_sizeFaults 100 = .ok (.iconst 0, 1) ∧ 100 + 1 = 101 := ⟨by decide +kernel, rfl⟩
theorem dMO_sizeFaults_101 : decode b_MO_sizeFaults 101 = .ok (.istore 7, 2) ∧ 101 + 2 = 103 := ⟨by decide +kernel, rfl⟩
theorem dMO_sizeFaults_103 : decode b_MO_sizeFaults 103 = .ok (.lload_n 1, 1) ∧ 103 + 1 = 104 := ⟨by decide +kernel, rfl⟩
theorem dMO_sizeFaults_104 : decode b_MO_sizeFaults 104 = .ok (.iload 7, 2) ∧ 104 + 2 = 106 := ⟨by decide +kernel, rfl⟩
theorem dMO_sizeFaults_106 : decode b_MO_sizeFaults 106 = .ok (.ifCond .eq (12), 3) ∧ 106 + 3 = 109 ∧ ((106 : Nat) : Int) + (12) = ((118 : Nat) : Int) := ⟨by decide +kernel, rfl, by decide⟩
theorem dMO_sizeFaults_109 : decode b_MO_sizeFaults 109 = .ok (.lload 5, 2) ∧ 109 + 2 = 111 := ⟨by decide +kernel, rfl⟩
theorem dMO_sizeFaults_111 : decode b_MO_sizeFaults 111 = .ok (.ldc2_w 290, 3) ∧ 111 + 3 = 114 := ⟨by decide +kernel, rfl⟩
theorem dMO_sizeFaults_114 : decode b_MO_sizeFaults 114 = .ok (.ldiv, 1) ∧ 114 + 1 = 115 := ⟨by decide +kernel, rfl⟩
theorem dMO_sizeFaults_115 : decode b_MO_sizeFaults 115 = .ok (.goto (4), 3) ∧ 115 + 3 = 118 ∧ ((115 : Nat) : Int) + (4) = ((119 : Nat) : Int) := ⟨by decide +kernel, rfl, by decide⟩
theorem dMO_sizeFaults_118 : decode b_MO_sizeFaults 118 = .ok (.lconst 0, 1) ∧ 118 + 1 = 119 := ⟨by decide +kernel, rfl⟩
theorem dMO_sizeFaults_119 : decode b_MO_sizeFaults 119 = .ok (.ladd, 1) ∧ 119 + 1 = 120 := ⟨by decide +kernel, rfl⟩
theorem dMO_sizeFaults_120 : decode b_MO_sizeFaults 120 = .ok (.lstore_n 1, 1) ∧ 120 + 1 = 121 := ⟨by decide +kernel, rfl⟩
theorem dMO_sizeFaults_121 : decode b_MO_sizeFaults 121 = .ok (.iload 4, 2) ∧ 121 + 2 = 123 := ⟨by decide +kernel, rfl⟩
theorem dMO_sizeFaults_123 : decode b_MO_sizeFaults 123 = .ok (.iconst 3, 1) ∧ 123 + 1 = 124 := ⟨by decide +kernel, rfl⟩
theorem dMO_sizeFaults_124 : decode b_MO_sizeFaults 124 = .ok (.if_icmp .ge (20), 3) ∧ 124 + 3 = 127 ∧ ((124 : Nat) : Int) + (20) = ((144 : Nat) : Int) := ⟨by decide +kernel, rfl, by decide⟩
theorem dMO_sizeFaults_127 : decode b_MO_sizeFaults 127 = .ok (.lload 5, 2) ∧ 127 + 2 = 129 := ⟨by decide +kernel, rfl⟩
theorem dMO_sizeFaults_129 : decode b_MO_sizeFaults 129 = .ok (.ldc2_w 292, 3) ∧ 129 + 3 = 132 := ⟨by decide +kernel, rfl⟩
theorem dMO_sizeFaults_132 : decode b_MO_sizeFaults 132 = .ok (.lcmp, 1) ∧ 132 + 1 = 133 := ⟨by decide +kernel, rfl⟩
theorem dMO_sizeFaults_133 : decode b_MO_sizeFaults 133 = .ok (.ifCond .gt (7), 3) ∧ 133 + 3 = 136 ∧ ((133 : Nat) : Int) + (7) = ((140 : Nat) : Int) := ⟨by decide +kernel, rfl, by decide⟩
theorem dMO_sizeFaults_136 : decode b_MO_sizeFaults 136 = .ok (.iconst 1, 1) ∧ 136 + 1 = 137 := ⟨by decide +kernel, rfl⟩
theorem dMO_sizeFaults_137 : decode b_MO_sizeFaults 137 = .ok (.goto (137), 3) ∧ 137 + 3 = 140 ∧ ((137 : Nat) : Int) + (137) = ((274 : Nat) : Int) := ⟨by decide +kernel, rfl, by decide⟩
theorem dMO_sizeFaults_140 : decode b_MO_sizeFaults 140 = .ok (.iconst 0, 1) ∧ 140 + 1 = 141 := ⟨by decide +kernel, rfl⟩
theorem dMO_sizeFaults_141 : decode b_MO_sizeFaults 141 = .ok (.goto (133), 3) ∧ 141 + 3 = 144 ∧ ((141 : Nat) : Int) + (133) = ((274 : Nat) : Int) := ⟨by decide +kernel, rfl, by decide⟩
theorem dMO_sizeFaults_144 : decode b_MO_sizeFaults 144 = .ok (.iload 4, 2) ∧ 144 + 2 = 146 := ⟨by decide +kernel, rfl⟩
theorem dMO_sizeFaults_146 : decode b_MO_sizeFaults 146 = .ok (.iconst 3, 1) ∧ 146 + 1 = 147 := ⟨by decide +kernel, rfl⟩
theorem dMO_sizeFaults_147 : decode b_MO_sizeFaults 147 = .ok (.if_icmp .ne (20), 3) ∧ 147 + 3 = 150 ∧ ((147 : Nat) : Int) + (20) = ((167 : Nat) : Int) := ⟨by decide +kernel, rfl, by decide⟩
theorem dMO_sizeFaults_150 : decode b_MO_sizeFaults 150 = .ok (.lload 5, 2) ∧ 150 + 2 = 152 := ⟨by decide +kernel, rfl⟩
theorem dMO_sizeFaults_152 : decode b_MO_sizeFaults 152 = .ok (.ldc2_w 294, 3) ∧ 152 + 3 = 155 := ⟨by decide +kernel, rfl⟩
theorem dMO_sizeFaults_155 : decode b_MO_sizeFaults 155 = .ok (.lcmp, 1) ∧ 155 + 1 = 156 := ⟨by decide +kernel, rfl⟩
theorem dMO_sizeFaults_156 : decode b_MO_sizeFaults 156 = .ok (.ifCond .gt (7), 3) ∧ 156 + 3 = 159 ∧ ((156 : Nat) : Int) + (7) = ((163 : Nat) : Int) := ⟨by decide +kernel, rfl, by decide⟩
theorem dMO_sizeFaults_159 : decode b_MO_sizeFaults 159 = .ok (.iconst 1, 1) ∧ 159 + 1 = 160 := ⟨by decide +kernel, rfl⟩
theorem dMO_sizeFaults_160 : decode b_MO_sizeFaults 160 = .ok (.goto (114), 3) ∧ 160 + 3 = 163 ∧ ((160 : Nat) : Int) + (114) = ((274 : Nat) : Int) := ⟨by decide +kernel, rfl, by decide⟩
theorem dMO_sizeFaults_163 : decode b_MO_sizeFaults 163 = .ok (.iconst 0, 1) ∧ 163 + 1 = 164 := ⟨by decide +kernel, rfl⟩
theorem dMO_sizeFaults_164 : decode b_MO_sizeFaults 164 = .ok (.goto (110), 3) ∧ 164 + 3 = 167 ∧ ((164 : Nat) : Int) + (110) = ((274 : Nat) : Int) := ⟨by decide +kernel, rfl, by decide⟩
theorem dMO_sizeFaults_167 : decode b_MO_sizeFaults 167 = .ok (.iload 4, 2) ∧ 167 + 2 = 169 := ⟨by decide +kernel, rfl⟩
theorem dMO_sizeFaults_169 : decode b_MO_sizeFaults 169 = .ok (.iconst 4, 1) ∧ 169 + 1 = 170 := ⟨by decide +kernel, rfl⟩
theorem dMO_sizeFaults_170 : decode b_MO_sizeFaults 170 = .ok (.if_icmp .ne (31), 3) ∧ 170 + 3 = 173 ∧ ((170 : Nat) : Int) + (31) = ((201 : Nat) : Int) := ⟨by decide +kernel, rfl, by decide⟩
theorem dMO_sizeFaults_173 : decode b_MO_sizeFaults 173 = .ok (.lload 5, 2) ∧ 173 + 2 = 175 := ⟨by decide +kernel, rfl⟩
theorem dMO_sizeFaults_175 : decode b_MO_sizeFaults 175 = .ok (.ldc2_w 292, 3) ∧ 175 + 3 = 178 := ⟨by decide +kernel, rfl⟩
theorem dMO_sizeFaults_178 : decode b_MO_sizeFaults 178 = .ok (.lcmp, 1) ∧ 178 + 1 = 179 := ⟨by decide +kernel, rfl⟩
theorem dMO_sizeFaults_179 : decode b_MO_sizeFaults 179 = .ok (.ifCond .gt (18), 3) ∧ 179 + 3 = 182 ∧ ((179 : Nat) : Int) + (18) = ((197 : Nat) : Int) := ⟨by decide +kernel, rfl, by decide⟩
theorem dMO_sizeFaults_182 : decode b_MO_sizeFaults 182 = .ok (.lload 5, 2) ∧ 182 + 2 = 184 := ⟨by decide +kernel, rfl⟩
theorem dMO_sizeFaults_184 : decode b_MO_sizeFaults 184 = .ok (.ldc2_w 130, 3) ∧ 184 + 3 = 187 := ⟨by decide +kernel, rfl⟩
theorem dMO_sizeFaults_187 : decode b_MO_sizeFaults 187 = .ok (.lrem, 1) ∧ 187 + 1 = 188 := ⟨by decide +kernel, rfl⟩
theorem dMO_sizeFaults_188 : decode b_MO_sizeFaults 188 = .ok (.lconst 0, 1) ∧ 188 + 1 = 189 := ⟨by decide +kernel, rfl⟩
theorem dMO_sizeFaults_189 : decode b_MO_sizeFaults 189 = .ok (.lcmp, 1) ∧ 189 + 1 = 190 := ⟨by decide +kernel, rfl⟩
theorem dMO_sizeFaults_190 : decode b_MO_sizeFaults 190 = .ok (.ifCond .ne (7), 3) ∧ 190 + 3 = 193 ∧ ((190 : Nat) : Int) + (7) = ((197 : Nat) : Int) := ⟨by decide +kernel, rfl, by decide⟩
theorem dMO_sizeFaults_193 : decode b_MO_sizeFaults 193 = .ok (.iconst 1, 1) ∧ 193 + 1 = 194 := ⟨by decide +kernel, rfl⟩
theorem dMO_sizeFaults_194 : decode b_MO_sizeFaults 194 = .ok (.goto (80), 3) ∧ 194 + 3 = 197 ∧ ((194 : Nat) : Int) + (80) = ((274 : Nat) : Int) := ⟨by decide +kernel, rfl, by decide⟩
theorem dMO_sizeFaults_197 : decode b_MO_sizeFaults 197 = .ok (.iconst 0, 1) ∧ 197 + 1 = 198 := ⟨by decide +kernel, rfl⟩
theorem dMO_sizeFaults_198 : decode b_MO_sizeFaults 198 = .ok (.goto (76), 3) ∧ 198 + 3 = 201 ∧ ((198 : Nat) : Int) + (76) = ((274 : Nat) : Int) := ⟨by decide +kernel, rfl, by decide⟩
theorem dMO_sizeFaults_201 : decode b_MO_sizeFaults 201 = .ok (.iload 7, 2) ∧ 201 + 2 = 203 := ⟨by decide +kernel, rfl⟩
theorem dMO_sizeFaults_203 : decode b_MO_sizeFaults 203 = .ok (.ifCond .eq (30), 3) ∧ 203 + 3 = 206 ∧ ((203 : Nat) : Int) + (30) = ((233 : Nat) : Int) := ⟨by decide +kernel, rfl, by decide⟩
theorem dMO_sizeFaults_206 : decode b_MO_sizeFaults 206 = .ok (.lload 5, 2) ∧ 206 + 2 = 208 := ⟨by decide +kernel, rfl⟩
theorem dMO_sizeFaults_208 : decode b_MO_sizeFaults 208 = .ok (.ldc2_w 290, 3) ∧ 208 + 3 = 211 := ⟨by decide +kernel, rfl⟩
theorem dMO_sizeFaults_211 : decode b_MO_sizeFaults 211 = .ok (.lrem, 1) ∧ 211 + 1 = 212 := ⟨by decide +kernel, rfl⟩
theorem dMO_sizeFaults_212 : decode b_MO_sizeFaults 212 = .ok (.lconst 0, 1) ∧ 212 + 1 = 213 := ⟨by decide +kernel, rfl⟩
theorem dMO_sizeFaults_213 : decode b_MO_sizeFaults 213 = .ok (.lcmp, 1) ∧ 213 + 1 = 214 := ⟨by decide +kernel, rfl⟩
theorem dMO_sizeFaults_214 : decode b_MO_sizeFaults 214 = .ok (.ifCond .ne (15), 3) ∧ 214 + 3 = 217 ∧ ((214 : Nat) : Int) + (15) = ((229 : Nat) : Int) := ⟨by decide +kernel, rfl, by decide⟩
theorem dMO_sizeFaults_217 : decode b_MO_sizeFaults 217 = .ok (.lload_n 1, 1) ∧ 217 + 1 = 218 := ⟨by decide +kernel, rfl⟩
theorem dMO_sizeFaults_218 : decode b_MO_sizeFaults 218 = .ok (.ldc2_w 296, 3) ∧ 218 + 3 = 221 := ⟨by decide +kernel, rfl⟩
theorem dMO_sizeFaults_221 : decode b_MO_sizeFaults 221 = .ok (.lcmp, 1) ∧ 221 + 1 = 222 := ⟨by decide +kernel, rfl⟩
theorem dMO_sizeFaults_222 : decode b_MO_sizeFaults 222 = .ok (.ifCond .gt (7), 3) ∧ 222 + 3 = 225 ∧ ((222 : Nat) : Int) + (7) = ((229 : Nat) : Int) := ⟨by decide +kernel, rfl, by decide⟩
theorem dMO_sizeFaults_225 : decode b_MO_sizeFaults 225 = .ok (.iconst 1, 1) ∧ 225 + 1 = 226 := ⟨by decide +kernel, rfl⟩
theorem dMO_sizeFaults_226 : decode b_MO_sizeFaults 226 = .ok (.goto (48), 3) ∧ 226 + 3 = 229 ∧ ((226 : Nat) : Int) + (48) = ((274 : Nat) : Int) := ⟨by decide +kernel, rfl, by decide⟩
theorem dMO_sizeFaults_229 : decode b_MO_sizeFaults 229 = .ok (.iconst 0, 1) ∧ 229 + 1 = 230 := ⟨by decide +kernel, rfl⟩
theorem dMO_sizeFaults_230 : decode b_MO_sizeFaults 230 = .ok (.goto (44), 3) ∧ 230 + 3 = 233 ∧ ((230 : Nat) : Int) + (44) = ((274 : Nat) : Int) := ⟨by decide +kernel, rfl, by decide⟩
theorem dMO_sizeFaults_233 : decode b_MO_sizeFaults 233 = .ok (.iload 4, 2) ∧ 233 + 2 = 235 := ⟨by decide +kernel, rfl⟩
theorem dMO_sizeFaults_235 : decode b_MO_sizeFaults 235 = .ok (.bipush (8), 2) ∧ 235 + 2 = 237 := ⟨by decide +kernel, rfl⟩
theorem dMO_sizeFaults_237 : decode b_MO_sizeFaults 237 = .ok (.if_icmp .ne (32), 3) ∧ 237 + 3 = 240 ∧ ((237 : Nat) : Int) + (32) = ((269 : Nat) : Int) := ⟨by decide +kernel, rfl, by decide⟩
theorem dMO_sizeFaults_240 : decode b_MO_sizeFaults 240 = .ok (.lload 5, 2) ∧ 240 + 2 = 242 := ⟨by decide +kernel, rfl⟩
theorem dMO_sizeFaults_242 : decode b_MO_sizeFaults 242 = .ok (.ldc2_w 298, 3) ∧ 242 + 3 = 245 := ⟨by decide +kernel, rfl⟩
theorem dMO_sizeFaults_245 : decode b_MO_sizeFaults 245 = .ok (.lrem, 1) ∧ 245 + 1 = 246 := ⟨by decide +kernel, rfl⟩
theorem dMO_sizeFaults_246 : decode b_MO_sizeFaults 246 = .ok (.lconst 0, 1) ∧ 246 + 1 = 247 := ⟨by decide +kernel, rfl⟩
theorem dMO_sizeFaults_247 : decode b_MO_sizeFaults 247 = .ok (.lcmp, 1) ∧ 247 + 1 = 248 := ⟨by decide +kernel, rfl⟩
theorem dMO_sizeFaults_248 : decode b_MO_sizeFaults 248 = .ok (.ifCond .ne (25), 3) ∧ 248 + 3 = 251 ∧ ((248 : Nat) : Int) + (25) = ((273 : Nat) : Int) := ⟨by decide +kernel, rfl, by decide⟩
theorem dMO_sizeFaults_251 : decode b_MO_sizeFaults 251 = .ok (.lload 5, 2) ∧ 251 + 2 = 253 := ⟨by decide +kernel, rfl⟩
theorem dMO_sizeFaults_253 : decode b_MO_sizeFaults 253 = .ok (.ldc2_w 298, 3) ∧ 253 + 3 = 256 := ⟨by decide +kernel, rfl⟩
theorem dMO_sizeFaults_256 : decode b_MO_sizeFaults 256 = .ok (.lcmp, 1) ∧ 256 + 1 = 257 := ⟨by decide +kernel, rfl⟩
theorem dMO_sizeFaults_257 : decode b_MO_sizeFaults 257 = .ok (.ifCond .lt (16), 3) ∧ 257 + 3 = 260 ∧ ((257 : Nat) : Int) + (16) = ((273 : Nat) : Int) := ⟨by decide +kernel, rfl, by decide⟩
theorem dMO_sizeFaults_260 : decode b_MO_sizeFaults 260 = .ok (.lload 5, 2) ∧ 260 + 2 = 262 := ⟨by decide +kernel, rfl⟩
theorem dMO_sizeFaults_262 : decode b_MO_sizeFaults 262 = .ok (.ldc2_w 300, 3) ∧ 262 + 3 = 265 := ⟨by decide +kernel, rfl⟩
theorem dMO_sizeFaults_265 : decode b_MO_sizeFaults 265 = .ok (.lcmp, 1) ∧ 265 + 1 = 266 := ⟨by decide +kernel, rfl⟩
theorem dMO_sizeFaults_266 : decode b_MO_sizeFaults 266 = .ok (.ifCond .gt (7), 3) ∧ 266 + 3 = 269 ∧ ((266 : Nat) : Int) + (7) = ((273 : Nat) : Int) := ⟨by decide +kernel, rfl, by decide⟩
theorem dMO_sizeFaults_269 : decode b_MO_sizeFaults 269 = .ok (.iconst 1, 1) ∧ 269 + 1 = 270 := ⟨by decide +kernel, rfl⟩
theorem dMO_sizeFaults_270 : decode b_MO_sizeFaults 270 = .ok (.goto (4), 3) ∧ 270 + 3 = 273 ∧ ((270 : Nat) : Int) + (4) = ((274 : Nat) : Int) := ⟨by decide +kernel, rfl, by decide⟩
theorem dMO_sizeFaults_273 : decode b_MO_sizeFaults 273 = .ok (.iconst 0, 1) ∧ 273 + 1 = 274 := ⟨by decide +kernel, rfl⟩
theorem dMO_sizeFaults_274 : decode b_MO_sizeFaults 274 = .ok (.istore 8, 2) ∧ 274 + 2 = 276 := ⟨by decide +kernel, rfl⟩
theorem dMO_sizeFaults_276 : decode b_MO_sizeFaults 276 = .ok (.iload 8, 2) ∧ 276 + 2 = 278 := ⟨by decide +kernel, rfl⟩
theorem dMO_sizeFaults_278 : decode b_MO_sizeFaults 278 = .ok (.ifCond .ne (16), 3) ∧ 278 + 3 = 281 ∧ ((278 : Nat) : Int) + (16) = ((294 : Nat) : Int) := ⟨by decide +kernel, rfl, by decide⟩
theorem dMO_sizeFaults_281 : decode b_MO_sizeFaults 281 = .ok (.aload_n 0, 1) ∧ 281 + 1 = 282 := ⟨by decide +kernel, rfl⟩
theorem dMO_sizeFaults_282 : decode b_MO_sizeFaults 282 = .ok (.bipush (19), 2) ∧ 282 + 2 = 284 := ⟨by decide +kernel, rfl⟩
theorem dMO_sizeFaults_284 : decode b_MO_sizeFaults 284 = .ok (.aload_n 0, 1) ∧ 284 + 1 = 285 := ⟨by decide +kernel, rfl⟩
theorem dMO_sizeFaults_285 : decode b_MO_sizeFaults 285 = .ok (.iload_n 3, 1) ∧ 285 + 1 = 286 := ⟨by decide +kernel, rfl⟩
theorem dMO_sizeFaults_286 : decode b_MO_sizeFaults 286 = .ok (.iconst 5, 1) ∧ 286 + 1 = 287 := ⟨by decide +kernel, rfl⟩
theorem dMO_sizeFaults_287 : decode b_MO_sizeFaults 287 = .ok (.invokevirtual 257, 3) ∧ 287 + 3 = 290 := ⟨by decide +kernel, rfl⟩
theorem dMO_sizeFaults_290 : decode b_MO_sizeFaults 290 = .ok (.invokevirtual 264, 3) ∧ 290 + 3 = 293 := ⟨by decide +kernel, rfl⟩
theorem dMO_sizeFaults_293 : decode b_MO_sizeFaults 293 = .ok (.ireturn, 1) ∧ 293 + 1 = 294 := ⟨by decide +kernel, rfl⟩
theorem dMO_sizeFaults_294 : decode b_MO_sizeFaults 294 = .ok (.iinc 3 (1), 3) ∧ 294 + 3 = 297 := ⟨by decide +kernel, rfl⟩
theorem dMO_sizeFaults_297 : decode b_MO_sizeFaults 297 = .ok (.goto (-238), 3) ∧ 297 + 3 = 300 ∧ ((297 : Nat) : Int) + (-238) = ((59 : Nat) : Int) := ⟨by decide +kernel, rfl, by decide⟩
theorem dMO_sizeFaults_300 : decode b_MO_sizeFaults 300 = .ok (.aload_n 0, 1) ∧ 300 + 1 = 301 := ⟨by decide +kernel, rfl⟩
theorem dMO_sizeFaults_301 : decode b_MO_sizeFaults 301 = .ok (.bipush (9), 2) ∧ 301 + 2 = 303 := ⟨by decide +kernel, rfl⟩
theorem dMO_sizeFaults_303 : decode b_MO_sizeFaults 303 = .ok (.invokevirtual 302, 3) ∧ 303 + 3 = 306 := ⟨by decide +kernel, rfl⟩
theorem dMO_sizeFaults_306 : decode b_MO_sizeFaults 306 = .ok (.l2i, 1) ∧ 306 + 1 = 307 := ⟨by decide +kernel, rfl⟩
theorem dMO_sizeFaults_307 : decode b_MO_sizeFaults 307 = .ok (.istore_n 3, 1) ∧ 307 + 1 = 308 := ⟨by decide +kernel, rfl⟩
theorem dMO_sizeFaults_308 : decode b_MO_sizeFaults 308 = .ok (.iload_n 3, 1) ∧ 308 + 1 = 309 := ⟨by decide +kernel, rfl⟩
theorem dMO_sizeFaults_309 : decode b_MO_sizeFaults 309 = .ok (.ifCond .ne (22), 3) ∧ 309 + 3 = 312 ∧ ((309 : Nat) : Int) + (22) = ((331 : Nat) : Int) := ⟨by decide +kernel, rfl, by decide⟩
theorem dMO_sizeFaults_312 : decode b_MO_sizeFaults 312 = .ok (.aload_n 0, 1) ∧ 312 + 1 = 313 := ⟨by decide +kernel, rfl⟩
theorem dMO_sizeFaults_313 : decode b_MO_sizeFaults 313 = .ok (.bipush (20), 2) ∧ 313 + 2 = 315 := ⟨by decide +kernel, rfl⟩
theorem dMO_sizeFaults_315 : decode b_MO_sizeFaults 315 = .ok (.aload_n 0, 1) ∧ 315 + 1 = 316 := ⟨by decide +kernel, rfl⟩
theorem dMO_sizeFaults_316 : decode b_MO_sizeFaults 316 = .ok (.aload_n 0, 1) ∧ 316 + 1 = 317 := ⟨by decide +kernel, rfl⟩
theorem dMO_sizeFaults_317 : decode b_MO_sizeFaults 317 = .ok (.getfield 107, 3) ∧ 317 + 3 = 320 := ⟨by decide +kernel, rfl⟩
theorem dMO_sizeFaults_320 : decode b_MO_sizeFaults 320 = .ok (.bipush (9), 2) ∧ 320 + 2 = 322 := ⟨by decide +kernel, rfl⟩
theorem dMO_sizeFaults_322 : decode b_MO_sizeFaults 322 = .ok (.iaload, 1) ∧ 322 + 1 = 323 := ⟨by decide +kernel, rfl⟩
theorem dMO_sizeFaults_323 : decode b_MO_sizeFaults 323 = .ok (.iconst 5, 1) ∧ 323 + 1 = 324 := ⟨by decide +kernel, rfl⟩
theorem dMO_sizeFaults_324 : decode b_MO_sizeFaults 324 = .ok (.invokevirtual 257, 3) ∧ 324 + 3 = 327 := ⟨by decide +kernel, rfl⟩
theorem dMO_sizeFaults_327 : decode b_MO_sizeFaults 327 = .ok (.invokevirtual 264, 3) ∧ 327 + 3 = 330 := ⟨by decide +kernel, rfl⟩
theorem dMO_sizeFaults_330 : decode b_MO_sizeFaults 330 = .ok (.ireturn, 1) ∧ 330 + 1 = 331 := ⟨by decide +kernel, rfl⟩
theorem dMO_sizeFaults_331 : decode b_MO_sizeFaults 331 = .ok (.aload_n 0, 1) ∧ 331 + 1 = 332 := ⟨by decide +kernel, rfl⟩
theorem dMO_sizeFaults_332 : decode b_MO_sizeFaults 332 = .ok (.getfield 70, 3) ∧ 332 + 3 = 335 := ⟨by decide +kernel, rfl⟩
theorem dMO_sizeFaults_335 : decode b_MO_sizeFaults 335 = .ok (.aload_n 0, 1) ∧ 335 + 1 = 336 := ⟨by decide +kernel, rfl⟩
theorem dMO_sizeFaults_336 : decode b_MO_sizeFaults 336 = .ok (.bipush (9), 2) ∧ 336 + 2 = 338 := ⟨by decide +kernel, rfl⟩
theorem dMO_sizeFaults_338 : decode b_MO_sizeFaults 338 = .ok (.invokevirtual 305, 3) ∧ 338 + 3 = 341 := ⟨by decide +kernel, rfl⟩
theorem dMO_sizeFaults_341 : decode b_MO_sizeFaults 341 = .ok (.iaload, 1) ∧ 341 + 1 = 342 := ⟨by decide +kernel, rfl⟩
theorem dMO_sizeFaults_342 : decode b_MO_sizeFaults 342 = .ok (.ifCond .eq (16), 3) ∧ 342 + 3 = 345 ∧ ((342 : Nat) : Int) + (16) = ((358 : Nat) : Int) := ⟨by decide +kernel, rfl, by decide⟩
theorem dMO_sizeFaults_345 : decode b_MO_sizeFaults 345 = .ok (.aload_n 0, 1) ∧ 345 + 1 = 346 := ⟨by decide +kernel, rfl⟩
theorem dMO_sizeFaults_346 : decode b_MO_sizeFaults 346 = .ok (.bipush (20), 2) ∧ 346 + 2 = 348 := ⟨by decide +kernel, rfl⟩
theorem dMO_sizeFaults_348 : decode b_MO_sizeFaults 348 = .ok (.aload_n 0, 1) ∧ 348 + 1 = 349 := ⟨by decide +kernel, rfl⟩
theorem dMO_sizeFaults_349 : decode b_MO_sizeFaults 349 = .ok (.bipush (9), 2) ∧ 349 + 2 = 351 := ⟨by decide +kernel, rfl⟩
theorem dMO_sizeFaults_351 : decode b_MO_sizeFaults 351 = .ok (.invokevirtual 305, 3) ∧ 351 + 3 = 354 := ⟨by decide +kernel, rfl⟩
theorem dMO_sizeFaults_354 : decode b_MO_sizeFaults 354 = .ok (.invokevirtual 264, 3) ∧ 354 + 3 = 357 := ⟨by decide +kernel, rfl⟩
theorem dMO_sizeFaults_357 : decode b_MO_sizeFaults 357 = .ok (.ireturn, 1) ∧ 357 + 1 = 358 := ⟨by decide +kernel, rfl⟩
theorem dMO_sizeFaults_358 : decode b_MO_sizeFaults 358 = .ok (.aload_n 0, 1) ∧ 358 + 1 = 359 := ⟨by decide +kernel, rfl⟩
theorem dMO_sizeFaults_359 : decode b_MO_sizeFaults 359 = .ok (.getfield 70, 3) ∧ 359 + 3 = 362 := ⟨by decide +kernel, rfl⟩
theorem dMO_sizeFaults_362 : decode b_MO_sizeFaults 362 = .ok (.aload_n 0, 1) ∧ 362 + 1 = 363 := ⟨by decide +kernel, rfl⟩
theorem dMO_sizeFaults_363 : decode b_MO_sizeFaults 363 = .ok (.bipush (9), 2) ∧ 363 + 2 = 365 := ⟨by decide +kernel, rfl⟩
theorem dMO_sizeFaults_365 : decode b_MO_sizeFaults 365 = .ok (.invokevirtual 305, 3) ∧ 365 + 3 = 368 := ⟨by decide +kernel, rfl⟩
theorem dMO_sizeFaults_368 : decode b_MO_sizeFaults 368 = .ok (.iload_n 3, 1) ∧ 368 + 1 = 369 := ⟨by decide +kernel, rfl⟩
theorem dMO_sizeFaults_369 : decode b_MO_sizeFaults 369 = .ok (.iadd, 1) ∧ 369 + 1 = 370 := ⟨by decide +kernel, rfl⟩
theorem dMO_sizeFaults_370 : decode b_MO_sizeFaults 370 = .ok (.iconst 1, 1) ∧ 370 + 1 = 371 := ⟨by decide +kernel, rfl⟩
theorem dMO_sizeFaults_371 : decode b_MO_sizeFaults 371 = .ok (.isub, 1) ∧ 371 + 1 = 372 := ⟨by decide +kernel, rfl⟩
theorem dMO_sizeFaults_372 : decode b_MO_sizeFaults 372 = .ok (.iaload, 1) ∧ 372 + 1 = 373 := ⟨by decide +kernel, rfl⟩
theorem dMO_sizeFaults_373 : decode b_MO_sizeFaults 373 = .ok (.ifCond .eq (22), 3) ∧ 373 + 3 = 376 ∧ ((373 : Nat) : Int) + (22) = ((395 : Nat) : Int) := ⟨by decide +kernel, rfl, by decide⟩
theorem dMO_sizeFaults_376 : decode b_MO_sizeFaults 376 = .ok (.aload_n 0, 1) ∧ 376 + 1 = 377 := ⟨by decide +kernel, rfl⟩
theorem dMO_sizeFaults_377 : decode b_MO_sizeFaults 377 = .ok (.bipush (20), 2) ∧ 377 + 2 = 379 := ⟨by decide +kernel, rfl⟩
theorem dMO_sizeFaults_379 : decode b_MO_sizeFaults 379 = .ok (.aload_n 0, 1) ∧ 379 + 1 = 380 := ⟨by decide +kernel, rfl⟩
theorem dMO_sizeFaults_380 : decode b_MO_sizeFaults 380 = .ok (.bipush (9), 2) ∧ 380 + 2 = 382 := ⟨by decide +kernel, rfl⟩
theorem dMO_sizeFaults_382 : decode b_MO_sizeFaults 382 = .ok (.invokevirtual 305, 3) ∧ 382 + 3 = 385 := ⟨by decide +kernel, rfl⟩
theorem dMO_sizeFaults_385 : decode b_MO_sizeFaults 385 = .ok (.iload_n 3, 1) ∧ 385 + 1 = 386 := ⟨by decide +kernel, rfl⟩
theorem dMO_sizeFaults_386 : decode b_MO_sizeFaults 386 = .ok (.iadd, 1) ∧ 386 + 1 = 387 := ⟨by decide +kernel, rfl⟩
theorem dMO_sizeFaults_387 : decode b_MO_sizeFaults 387 = .ok (.iconst 1, 1) ∧ 387 + 1 = 388 := ⟨by decide +kernel, rfl⟩
theorem dMO_sizeFaults_388 : decode b_MO_sizeFaults 388 = .ok (.isub, 1) ∧ 388 + 1 = 389 := ⟨by decide +kernel, rfl⟩
theorem dMO_sizeFaults_389 : decode b_MO_sizeFaults 389 = .ok (.invokevirtual 264, 3) ∧ 389 + 3 = 392 := ⟨by decide +kernel, rfl⟩
theorem dMO_sizeFaults_392 : decode b_MO_sizeFaults 392 = .ok (.goto (4), 3) ∧ 392 + 3 = 395 ∧ ((392 : Nat) : Int) + (4) = ((396 : Nat) : Int) := ⟨by decide +kernel, rfl, by decide⟩
theorem dMO_sizeFaults_395 : decode b_MO_sizeFaults 395 = .ok (.iconst 0, 1) ∧ 395 + 1 = 396 := ⟨by decide +kernel, rfl⟩
theorem dMO_sizeFaults_396 : decode b_MO_sizeFaults 396 = .ok (.ireturn, 1) ∧ 396 + 1 = 397 := ⟨by decide +kernel, rfl⟩
theorem dMO_symbolsIn_0 : decode b_MO_symbolsIn 0 = .ok (.aload_n 0, 1) ∧ 0 + 1 = 1 := ⟨by decide +kernel, rfl⟩
theorem dMO_symbolsIn_1 : decode b_MO_symbolsIn 1 = .ok (.bipush (8), 2) ∧ 1 + 2 = 3 := ⟨by decide +kernel, rfl⟩
theorem dMO_symbolsIn_3 : decode b_MO_symbolsIn 3 = .ok (.invokevirtual 302, 3) ∧ 3 + 3 = 6 := ⟨by decide +kernel, rfl⟩
theorem dMO_symbolsIn_6 : decode b_MO_symbolsIn 6 = .ok (.ldc2_w 298, 3) ∧ 6 + 3 = 9 := ⟨by decide +kernel, rfl⟩
theorem dMO_symbolsIn_9 : decode b_MO_symbolsIn 9 = .ok (.ldiv, 1) ∧ 9 + 1 = 10 := ⟨by decide +kernel, rfl⟩
theorem dMO_symbolsIn_10 : decode b_MO_symbolsIn 10 = .ok (.l2i, 1) ∧ 10 + 1 = 11 := ⟨by decide +kernel, rfl⟩
theorem dMO_symbolsIn_11 : decode b_MO_symbolsIn 11 = .ok (.ireturn, 1) ∧ 11 + 1 = 12 := ⟨by decide +kernel, rfl⟩
theorem dMO_symbolPlace_0 : decode b_MO_symbolPlace 0 = .ok (.aload_n 0, 1) ∧ 0 + 1 = 1 := ⟨by decide +kernel, rfl⟩
theorem dMO_symbolPlace_1 : decode b_MO_symbolPlace 1 = .ok (.bipush (8), 2) ∧ 1 + 2 = 3 := ⟨by decide +kernel, rfl⟩
theorem dMO_symbolPlace_3 : decode b_MO_symbolPlace 3 = .ok (.invokevirtual 305, 3) ∧ 3 + 3 = 6 := ⟨by decide +kernel, rfl⟩
theorem dMO_symbolPlace_6 : decode b_MO_symbolPlace 6 = .ok (.bipush (16), 2) ∧ 6 + 2 = 8 := ⟨by decide +kernel, rfl⟩
theorem dMO_symbolPlace_8 : decode b_MO_symbolPlace 8 = .ok (.iload_n 1, 1) ∧ 8 + 1 = 9 := ⟨by decide +kernel, rfl⟩
theorem dMO_symbolPlace_9 : decode b_MO_symbolPlace 9 = .ok (.imul, 1) ∧ 9 + 1 = 10 := ⟨by decide +kernel, rfl⟩
theorem dMO_symbolPlace_10 : decode b_MO_symbolPlace 10 = .ok (.iadd, 1) ∧ 10 + 1 = 11 := ⟨by decide +kernel, rfl⟩
theorem dMO_symbolPlace_11 : decode b_MO_symbolPlace 11 = .ok (.ireturn, 1) ∧ 11 + 1 = 12 := ⟨by decide +kernel, rfl⟩
theorem dMO_bindOf_0 : decode b_MO_bindOf 0 = .ok (.aload_n 0, 1) ∧ 0 + 1 = 1 := ⟨by decide +kernel, rfl⟩
theorem dMO_bindOf_1 : decode b_MO_bindOf 1 = .ok (.getfield 70, 3) ∧ 1 + 3 = 4 := ⟨by decide +kernel, rfl⟩
theorem dMO_bindOf_4 : decode b_MO_bindOf 4 = .ok (.aload_n 0, 1) ∧ 4 + 1 = 5 := ⟨by decide +kernel, rfl⟩
theorem dMO_bindOf_5 : decode b_MO_bindOf 5 = .ok (.iload_n 1, 1) ∧ 5 + 1 = 6 := ⟨by decide +kernel, rfl⟩
theorem dMO_bindOf_6 : decode b_MO_bindOf 6 = .ok (.invokevirtual 311, 3) ∧ 6 + 3 = 9 := ⟨by decide +kernel, rfl⟩
theorem dMO_bindOf_9 : decode b_MO_bindOf 9 = .ok (.bipush (12), 2) ∧ 9 + 2 = 11 := ⟨by decide +kernel, rfl⟩
theorem dMO_bindOf_11 : decode b_MO_bindOf 11 = .ok (.iadd, 1) ∧ 11 + 1 = 12 := ⟨by decide +kernel, rfl⟩
theorem dMO_bindOf_12 : decode b_MO_bindOf 12 = .ok (.iaload, 1) ∧ 12 + 1 = 13 := ⟨by decide +kernel, rfl⟩
theorem dMO_bindOf_13 : decode b_MO_bindOf 13 = .ok (.iconst 4, 1) ∧ 13 + 1 = 14 := ⟨by decide +kernel, rfl⟩
theorem dMO_bindOf_14 : decode b_MO_bindOf 14 = .ok (.ishr, 1) ∧ 14 + 1 = 15 := ⟨by decide +kernel, rfl⟩
theorem dMO_bindOf_15 : decode b_MO_bindOf 15 = .ok (.ireturn, 1) ∧ 15 + 1 = 16 := ⟨by decide +kernel, rfl⟩
theorem dMO_infoFault_0 : decode b_MO_infoFault 0 = .ok (.lconst 1, 1) ∧ 0 + 1 = 1 := ⟨by decide +kernel, rfl⟩
theorem dMO_infoFault_1 : decode b_MO_infoFault 1 = .ok (.lstore_n 1, 1) ∧ 1 + 1 = 2 := ⟨by decide +kernel, rfl⟩
theorem dMO_infoFault_2 : decode b_MO_infoFault 2 = .ok (.iconst 1, 1) ∧ 2 + 1 = 3 := ⟨by decide +kernel, rfl⟩
theorem dMO_infoFault_3 : decode b_MO_infoFault 3 = .ok (.istore_n 3, 1) ∧ 3 + 1 = 4 := ⟨by decide +kernel, rfl⟩
theorem dMO_infoFault_4 : decode b_MO_infoFault 4 = .ok (.iload_n 3, 1) ∧ 4 + 1 = 5 := ⟨by decide +kernel, rfl⟩
theorem dMO_infoFault_5 : decode b_MO_infoFault 5 = .ok (.aload_n 0, 1) ∧ 5 + 1 = 6 := ⟨by decide +kernel, rfl⟩
theorem dMO_infoFault_6 : decode b_MO_infoFault 6 = .ok (.invokevirtual 334, 3) ∧ 6 + 3 = 9 := ⟨by decide +kernel, rfl⟩
theorem dMO_infoFault_9 : decode b_MO_infoFault 9 = .ok (.if_icmp .ge (25), 3) ∧ 9 + 3 = 12 ∧ ((9 : Nat) : Int) + (25) = ((34 : Nat) : Int) := ⟨by decide +kernel, rfl, by decide⟩
theorem dMO_infoFault_12 : decode b_MO_infoFault 12 = .ok (.lload_n 1, 1) ∧ 12 + 1 = 13 := ⟨by decide +kernel, rfl⟩
theorem dMO_infoFault_13 : decode b_MO_infoFault 13 = .ok (.aload_n 0, 1) ∧ 13 + 1 = 14 := ⟨by decide +kernel, rfl⟩
theorem dMO_infoFault_14 : decode b_MO_infoFault 14 = .ok (.iload_n 3, 1) ∧ 14 + 1 = 15 := ⟨by decide +kernel, rfl⟩
theorem dMO_infoFault_15 : decode b_MO_infoFault 15 = .ok (.invokevirtual 320, 3) ∧ 15 + 3 = 18 := ⟨by decide +kernel, rfl⟩
theorem dMO_infoFault_18 : decode b_MO_infoFault 18 = .ok (.ifCond .ne (7), 3) ∧ 18 + 3 = 21 ∧ ((18 : Nat) : Int) + (7) = ((25 : Nat) : Int) := ⟨by decide +kernel, rfl, by decide⟩
theorem dMO_infoFault_21 : decode b_MO_infoFault 21 = .ok (.lconst 1, 1) ∧ 21 + 1 = 22 := ⟨by decide +kernel, rfl⟩
theorem dMO_infoFault_22 : decode b_MO_infoFault 22 = .ok (.goto (4), 3) ∧ 22 + 3 = 25 ∧ ((22 : Nat) : Int) + (4) = ((26 : Nat) : Int) := ⟨by decide +kernel, rfl, by decide⟩
theorem dMO_infoFault_25 : decode b_MO_infoFault 25 = .ok (.lconst 0, 1) ∧ 25 + 1 = 26 := ⟨by decide +kernel, rfl⟩
theorem dMO_infoFault_26 : decode b_MO_infoFault 26 = .ok (.ladd, 1) ∧ 26 + 1 = 27 := ⟨by decide +kernel, rfl⟩
theorem dMO_infoFault_27 : decode b_MO_infoFault 27 = .ok (.lstore_n 1, 1) ∧ 27 + 1 = 28 := ⟨by decide +kernel, rfl⟩
theorem dMO_infoFault_28 : decode b_MO_infoFault 28 = .ok (.iinc 3 (1), 3) ∧ 28 + 3 = 31 := ⟨by decide +kernel, rfl⟩
theorem dMO_infoFault_31 : decode b_MO_infoFault 31 = .ok (.goto (-27), 3) ∧ 31 + 3 = 34 ∧ ((31 : Nat) : Int) + (-27) = ((4 : Nat) : Int) := ⟨by decide +kernel, rfl, by decide⟩
theorem dMO_infoFault_34 : decode b_MO_infoFault 34 = .ok (.aload_n 0, 1) ∧ 34 + 1 = 35 := ⟨by decide +kernel, rfl⟩
theorem dMO_infoFault_35 : decode b_MO_infoFault 35 = .ok (.getfield 107, 3) ∧ 35 + 3 = 38 := ⟨by decide +kernel, rfl⟩
theorem dMO_infoFault_38 : decode b_MO_infoFault 38 = .ok (.bipush (8), 2) ∧ 38 + 2 = 40 := ⟨by decide +kernel, rfl⟩
theorem dMO_infoFault_40 : decode b_MO_infoFault 40 = .ok (.iaload, 1) ∧ 40 + 1 = 41 := ⟨by decide +kernel, rfl⟩
theorem dMO_infoFault_41 : decode b_MO_infoFault 41 = .ok (.istore_n 3, 1) ∧ 41 + 1 = 42 := ⟨by decide +kernel, rfl⟩
theorem dMO_infoFault_42 : decode b_MO_infoFault 42 = .ok (.aload_n 0, 1) ∧ 42 + 1 = 43 := ⟨by decide +kernel, rfl⟩
theorem dMO_infoFault_43 : decode b_MO_infoFault 43 = .ok (.iload_n 3, 1) ∧ 43 + 1 = 44 := ⟨by decide +kernel, rfl⟩
theorem dMO_infoFault_44 : decode b_MO_infoFault 44 = .ok (.bipush (7), 2) ∧ 44 + 2 = 46 := ⟨by decide +kernel, rfl⟩
theorem dMO_infoFault_46 : decode b_MO_infoFault 46 = .ok (.invokevirtual 273, 3) ∧ 46 + 3 = 49 := ⟨by decide +kernel, rfl⟩
theorem dMO_infoFault_49 : decode b_MO_infoFault 49 = .ok (.lload_n 1, 1) ∧ 49 + 1 = 50 := ⟨by decide +kernel, rfl⟩
theorem dMO_infoFault_50 : decode b_MO_infoFault 50 = .ok (.lcmp, 1) ∧ 50 + 1 = 51 := ⟨by decide +kernel, rfl⟩
theorem dMO_infoFault_51 : decode b_MO_infoFault 51 = .ok (.ifCond .eq (19), 3) ∧ 51 + 3 = 54 ∧ ((51 : Nat) : Int) + (19) = ((70 : Nat) : Int) := ⟨by decide +kernel, rfl, by decide⟩
theorem dMO_infoFault_54 : decode b_MO_infoFault 54 = .ok (.aload_n 0, 1) ∧ 54 + 1 = 55 := ⟨by decide +kernel, rfl⟩
theorem dMO_infoFault_55 : decode b_MO_infoFault 55 = .ok (.bipush (28), 2) ∧ 55 + 2 = 57 := ⟨by decide +kernel, rfl⟩
theorem dMO_infoFault_57 : decode b_MO_infoFault 57 = .ok (.aload_n 0, 1) ∧ 57 + 1 = 58 := ⟨by decide +kernel, rfl⟩
theorem dMO_infoFault_58 : decode b_MO_infoFault 58 = .ok (.iload_n 3, 1) ∧ 58 + 1 = 59 := ⟨by decide +kernel, rfl⟩
theorem dMO_infoFault_59 : decode b_MO_infoFault 59 = .ok (.bipush (7), 2) ∧ 59 + 2 = 61 := ⟨by decide +kernel, rfl⟩
theorem dMO_infoFault_61 : decode b_MO_infoFault 61 = .ok (.invokevirtual 257, 3) ∧ 61 + 3 = 64 := ⟨by decide +kernel, rfl⟩
theorem dMO_infoFault_64 : decode b_MO_infoFault 64 = .ok (.invokevirtual 264, 3) ∧ 64 + 3 = 67 := ⟨by decide +kernel, rfl⟩
theorem dMO_infoFault_67 : decode b_MO_infoFault 67 = .ok (.goto (4), 3) ∧ 67 + 3 = 70 ∧ ((67 : Nat) : Int) + (4) = ((71 : Nat) : Int) := ⟨by decide +kernel, rfl, by decide⟩
theorem dMO_infoFault_70 : decode b_MO_infoFault 70 = .ok (.iconst 0, 1) ∧ 70 + 1 = 71 := ⟨by decide +kernel, rfl⟩
theorem dMO_infoFault_71 : decode b_MO_infoFault 71 = .ok (.ireturn, 1) ∧ 71 + 1 = 72 := ⟨by decide +kernel, rfl⟩
theorem dMO_startFaults_0 : decode b_MO_startFaults 0 = .ok (.iconst 0, 1) ∧ 0 + 1 = 1 := ⟨by decide +kernel, rfl⟩
theorem dMO_startFaults_1 : decode b_MO_startFaults 1 = .ok (.istore_n 1, 1) ∧ 1 + 1 = 2 := ⟨by decide +kernel, rfl⟩
theorem dMO_startFaults_2 : decode b_MO_startFaults 2 = .ok (.aload_n 0, 1) ∧ 2 + 1 = 3 := ⟨by decide +kernel, rfl⟩
theorem dMO_startFaults_3 : decode b_MO_startFaults 3 = .ok (.iconst 4, 1) ∧ 3 + 1 = 4 := ⟨by decide +kernel, rfl⟩
theorem dMO_startFaults_4 : decode b_MO_startFaults 4 = .ok (.invokevirtual 302, 3) ∧ 4 + 3 = 7 := ⟨by decide +kernel, rfl⟩
theorem dMO_startFaults_7 : decode b_MO_startFaults 7 = .ok (.l2i, 1) ∧ 7 + 1 = 8 := ⟨by decide +kernel, rfl⟩
theorem dMO_startFaults_8 : decode b_MO_startFaults 8 = .ok (.iconst 2, 1) ∧ 8 + 1 = 9 := ⟨by decide +kernel, rfl⟩
theorem dMO_startFaults_9 : decode b_MO_startFaults 9 = .ok (.idiv, 1) ∧ 9 + 1 = 10 := ⟨by decide +kernel, rfl⟩
theorem dMO_startFaults_10 : decode b_MO_startFaults 10 = .ok (.istore_n 2, 1) ∧ 10 + 1 = 11 := ⟨by decide +kernel, rfl⟩
theorem dMO_startFaults_11 : decode b_MO_startFaults 11 = .ok (.iconst 0, 1) ∧ 11 + 1 = 12 := ⟨by decide +kernel, rfl⟩
theorem dMO_startFaults_12 : decode b_MO_startFaults 12 = .ok (.istore_n 3, 1) ∧ 12 + 1 = 13 := ⟨by decide +kernel, rfl⟩
theorem dMO_startFaults_13 : decode b_MO_startFaults 13 = .ok (.iload_n 3, 1) ∧ 13 + 1 = 14 := ⟨by decide +kernel, rfl⟩
theorem dMO_startFaults_14 : decode b_MO_startFaults 14 = .ok (.iload_n 2, 1) ∧ 14 + 1 = 15 := ⟨by decide +kernel, rfl⟩
theorem dMO_startFaults_15 : decode b_MO_startFaults 15 = .ok (.if_icmp .ge (100), 3) ∧ 15 + 3 = 18 ∧ ((15 : Nat) : Int) + (100) = ((115 : Nat) : Int) := ⟨by decide +kernel, rfl, by decide⟩
theorem dMO_startFaults_18 : decode b_MO_startFaults 18 = .ok (.aload_n 0, 1) ∧ 18 + 1 = 19 := ⟨by decide +kernel, rfl⟩
theorem dMO_startFaults_19 : decode b_MO_startFaults 19 = .ok (.iconst 4, 1) ∧ 19 + 1 = 20 := ⟨by decide +kernel, rfl⟩
theorem dMO_startFaults_20 : decode b_MO_startFaults 20 = .ok (.invokevirtual 305, 3) ∧ 20 + 3 = 23 := ⟨by decide +kernel, rfl⟩
theorem dMO_startFaults_23 : decode b_MO_startFaults 23 = .ok (.iconst 2, 1) ∧ 23 + 1 = 24 := ⟨by decide +kernel, rfl⟩
theorem dMO_startFaults_24 : decode b_MO_startFaults 24 = .ok (.iload_n 3, 1) ∧ 24 + 1 = 25 := ⟨by decide +kernel, rfl⟩
theorem dMO_startFaults_25 : decode b_MO_startFaults 25 = .ok (.imul, 1) ∧ 25 + 1 = 26 := ⟨by decide +kernel, rfl⟩
theorem dMO_startFaults_26 : decode b_MO_startFaults 26 = .ok (.iadd, 1) ∧ 26 + 1 = 27 := ⟨by decide +kernel, rfl⟩
theorem dMO_startFaults_27 : decode b_MO_startFaults 27 = .ok (.istore 4, 2) ∧ 27 + 2 = 29 := ⟨by decide +kernel, rfl⟩
theorem dMO_startFaults_29 : decode b_MO_startFaults 29 = .ok (.aload_n 0, 1) ∧ 29 + 1 = 30 := ⟨by decide +kernel, rfl⟩
theorem dMO_startFaults_30 : decode b_MO_startFaults 30 = .ok (.iload 4, 2) ∧ 30 + 2 = 32 := ⟨by decide +kernel, rfl⟩
theorem dMO_startFaults_32 : decode b_MO_startFaults 32 = .ok (.invokevirtual 249, 3) ∧ 32 + 3 = 35 := ⟨by decide +kernel, rfl⟩
theorem dMO_startFaults_35 : decode b_MO_startFaults 35 = .ok (.istore 5, 2) ∧ 35 + 2 = 37 := ⟨by decide +kernel, rfl⟩
theorem dMO_startFaults_37 : decode b_MO_startFaults 37 = .ok (.iload 5, 2) ∧ 37 + 2 = 39 := ⟨by decide +kernel, rfl⟩
theorem dMO_startFaults_39 : decode b_MO_startFaults 39 = .ok (.iconst 2, 1) ∧ 39 + 1 = 40 := ⟨by decide +kernel, rfl⟩
theorem dMO_startFaults_40 : decode b_MO_startFaults 40 = .ok (.irem, 1) ∧ 40 + 1 = 41 := ⟨by decide +kernel, rfl⟩
theorem dMO_startFaults_41 : decode b_MO_startFaults 41 = .ok (.ifCond .ne (32), 3) ∧ 41 + 3 = 44 ∧ ((41 : Nat) : Int) + (32) = ((73 : Nat) : Int) := ⟨by decide +kernel, rfl, by decide⟩
theorem dMO_startFaults_44 : decode b_MO_startFaults 44 = .ok (.iload_n 3, 1) ∧ 44 + 1 = 45 := ⟨by decide +kernel, rfl⟩
theorem dMO_startFaults_45 : decode b_MO_startFaults 45 = .ok (.ifCond .le (16), 3) ∧ 45 + 3 = 48 ∧ ((45 : Nat) : Int) + (16) = ((61 : Nat) : Int) := ⟨by decide +kernel, rfl, by decide⟩
theorem dMO_startFaults_48 : decode b_MO_startFaults 48 = .ok (.iload 5, 2) ∧ 48 + 2 = 50 := ⟨by decide +kernel, rfl⟩
theorem dMO_startFaults_50 : decode b_MO_startFaults 50 = .ok (.aload_n 0, 1) ∧ 50 + 1 = 51 := ⟨by decide +kernel, rfl⟩
theorem dMO_startFaults_51 : decode b_MO_startFaults 51 = .ok (.iload 4, 2) ∧ 51 + 2 = 53 := ⟨by decide +kernel, rfl⟩
theorem dMO_startFaults_53 : decode b_MO_startFaults 53 = .ok (.iconst 2, 1) ∧ 53 + 1 = 54 := ⟨by decide +kernel, rfl⟩
theorem dMO_startFaults_54 : decode b_MO_startFaults 54 = .ok (.isub, 1) ∧ 54 + 1 = 55 := ⟨by decide +kernel, rfl⟩
theorem dMO_startFaults_55 : decode b_MO_startFaults 55 = .ok (.invokevirtual 249, 3) ∧ 55 + 3 = 58 := ⟨by decide +kernel, rfl⟩
theorem dMO_startFaults_58 : decode b_MO_startFaults 58 = .ok (.if_icmp .le (15), 3) ∧ 58 + 3 = 61 ∧ ((58 : Nat) : Int) + (15) = ((73 : Nat) : Int) := ⟨by decide +kernel, rfl, by decide⟩
theorem dMO_startFaults_61 : decode b_MO_startFaults 61 = .ok (.iload 5, 2) ∧ 61 + 2 = 63 := ⟨by decide +kernel, rfl⟩
theorem dMO_startFaults_63 : decode b_MO_startFaults 63 = .ok (.i2l, 1) ∧ 63 + 1 = 64 := ⟨by decide +kernel, rfl⟩
theorem dMO_startFaults_64 : decode b_MO_startFaults 64 = .ok (.aload_n 0, 1) ∧ 64 + 1 = 65 := ⟨by decide +kernel, rfl⟩
theorem dMO_startFaults_65 : decode b_MO_startFaults 65 = .ok (.iconst 0, 1) ∧ 65 + 1 = 66 := ⟨by decide +kernel, rfl⟩
theorem dMO_startFaults_66 : decode b_MO_startFaults 66 = .ok (.invokevirtual 302, 3) ∧ 66 + 3 = 69 := ⟨by decide +kernel, rfl⟩
theorem dMO_startFaults_69 : decode b_MO_startFaults 69 = .ok (.lcmp, 1) ∧ 69 + 1 = 70 := ⟨by decide +kernel, rfl⟩
theorem dMO_startFaults_70 : decode b_MO_startFaults 70 = .ok (.ifCond .lt (12), 3) ∧ 70 + 3 = 73 ∧ ((70 : Nat) : Int) + (12) = ((82 : Nat) : Int) := ⟨by decide +kernel, rfl, by decide⟩
theorem dMO_startFaults_73 : decode b_MO_startFaults 73 = .ok (.aload_n 0, 1) ∧ 73 + 1 = 74 := ⟨by decide +kernel, rfl⟩
theorem dMO_startFaults_74 : decode b_MO_startFaults 74 = .ok (.bipush (33), 2) ∧ 74 + 2 = 76 := ⟨by decide +kernel, rfl⟩
theorem dMO_startFaults_76 : decode b_MO_startFaults 76 = .ok (.iload 4, 2) ∧ 76 + 2 = 78 := ⟨by decide +kernel, rfl⟩
theorem dMO_startFaults_78 : decode b_MO_startFaults 78 = .ok (.invokevirtual 264, 3) ∧ 78 + 3 = 81 := ⟨by decide +kernel, rfl⟩
theorem dMO_startFaults_81 : decode b_MO_startFaults 81 = .ok (.ireturn, 1) ∧ 81 + 1 = 82 := ⟨by decide +kernel, rfl⟩
theorem dMO_startFaults_82 : decode b_MO_startFaults 82 = .ok (.iload_n 1, 1) ∧ 82 + 1 = 83 := ⟨by decide +kernel, rfl⟩
theorem dMO_startFaults_83 : decode b_MO_startFaults 83 = .ok (.aload_n 0, 1) ∧ 83 + 1 = 84 := ⟨by decide +kernel, rfl⟩
theorem dMO_startFaults_84 : decode b_MO_startFaults 84 = .ok (.getfield 70, 3) ∧ 84 + 3 = 87 := ⟨by decide +kernel, rfl⟩
theorem dMO_startFaults_87 : decode b_MO_startFaults 87 = .ok (.aload_n 0, 1) ∧ 87 + 1 = 88 := ⟨by decide +kernel, rfl⟩
theorem dMO_startFaults_88 : decode b_MO_startFaults 88 = .ok (.iconst 0, 1) ∧ 88 + 1 = 89 := ⟨by decide +kernel, rfl⟩
theorem dMO_startFaults_89 : decode b_MO_startFaults 89 = .ok (.invokevirtual 305, 3) ∧ 89 + 3 = 92 := ⟨by decide +kernel, rfl⟩
theorem dMO_startFaults_92 : decode b_MO_startFaults 92 = .ok (.iload 5, 2) ∧ 92 + 2 = 94 := ⟨by decide +kernel, rfl⟩
theorem dMO_startFaults_94 : decode b_MO_startFaults 94 = .ok (.iadd, 1) ∧ 94 + 1 = 95 := ⟨by decide +kernel, rfl⟩
theorem dMO_startFaults_95 : decode b_MO_startFaults 95 = .ok (.iaload, 1) ∧ 95 + 1 = 96 := ⟨by decide +kernel, rfl⟩
theorem dMO_startFaults_96 : decode b_MO_startFaults 96 = .ok (.invokestatic 213, 3) ∧ 96 + 3 = 99 := ⟨by decide +kernel, rfl⟩
theorem dMO_startFaults_99 : decode b_MO_startFaults 99 = .ok (.ifCond .eq (7), 3) ∧ 99 + 3 = 102 ∧ ((99 : Nat) : Int) + (7) = ((106 : Nat) : Int) := ⟨by decide +kernel, rfl, by decide⟩
theorem dMO_startFaults_102 : decode b_MO_startFaults 102 = .ok (.iconst 1, 1) ∧ 102 + 1 = 103 := ⟨by decide +kernel, rfl⟩
theorem dMO_startFaults_103 : decode b_MO_startFaults 103 = .ok (.goto (4), 3) ∧ 103 + 3 = 106 ∧ ((103 : Nat) : Int) + (4) = ((107 : Nat) : Int) := ⟨by decide +kernel, rfl, by decide⟩
theorem dMO_startFaults_106 : decode b_MO_startFaults 106 = .ok (.iconst 0, 1) ∧ 106 + 1 = 107 := ⟨by decide +kernel, rfl⟩
theorem dMO_startFaults_107 : decode b_MO_startFaults 107 = .ok (.iadd, 1) ∧ 107 + 1 = 108 := ⟨by decide +kernel, rfl⟩
theorem dMO_startFaults_108 : decode b_MO_startFaults 108 = .ok (.istore_n 1, 1) ∧ 108 + 1 = 109 := ⟨by decide +kernel, rfl⟩
theorem dMO_startFaults_109 : decode b_MO_startFaults 109 = .ok (.iinc 3 (1), 3) ∧ 109 + 3 = 112 := ⟨by decide +kernel, rfl⟩
theorem dMO_startFaults_112 : decode b_MO_startFaults 112 = .ok (.goto (-99), 3) ∧ 112 + 3 = 115 ∧ ((112 : Nat) : Int) + (-99) = ((13 : Nat) : Int) := ⟨by decide +kernel, rfl, by decide⟩
theorem dMO_startFaults_115 : decode b_MO_startFaults 115 = .ok (.aload_n 0, 1) ∧ 115 + 1 = 116 := ⟨by decide +kernel, rfl⟩
theorem dMO_startFaults_116 : decode b_MO_startFaults 116 = .ok (.bipush (36), 2) ∧ 116 + 2 = 118 := ⟨by decide +kernel, rfl⟩
theorem dMO_startFaults_118 : decode b_MO_startFaults 118 = .ok (.invokevirtual 260, 3) ∧ 118 + 3 = 121 := ⟨by decide +kernel, rfl⟩
theorem dMO_startFaults_121 : decode b_MO_startFaults 121 = .ok (.lconst 1, 1) ∧ 121 + 1 = 122 := ⟨by decide +kernel, rfl⟩
theorem dMO_startFaults_122 : decode b_MO_startFaults 122 = .ok (.lcmp, 1) ∧ 122 + 1 = 123 := ⟨by decide +kernel, rfl⟩
theorem dMO_startFaults_123 : decode b_MO_startFaults 123 = .ok (.ifCond .ne (7), 3) ∧ 123 + 3 = 126 ∧ ((123 : Nat) : Int) + (7) = ((130 : Nat) : Int) := ⟨by decide +kernel, rfl, by decide⟩
theorem dMO_startFaults_126 : decode b_MO_startFaults 126 = .ok (.iconst 1, 1) ∧ 126 + 1 = 127 := ⟨by decide +kernel, rfl⟩
theorem dMO_startFaults_127 : decode b_MO_startFaults 127 = .ok (.goto (4), 3) ∧ 127 + 3 = 130 ∧ ((127 : Nat) : Int) + (4) = ((131 : Nat) : Int) := ⟨by decide +kernel, rfl, by decide⟩
theorem dMO_startFaults_130 : decode b_MO_startFaults 130 = .ok (.iconst 0, 1) ∧ 130 + 1 = 131 := ⟨by decide +kernel, rfl⟩
theorem dMO_startFaults_131 : decode b_MO_startFaults 131 = .ok (.iload_n 1, 1) ∧ 131 + 1 = 132 := ⟨by decide +kernel, rfl⟩
theorem dMO_startFaults_132 : decode b_MO_startFaults 132 = .ok (.ifCond .le (7), 3) ∧ 132 + 3 = 135 ∧ ((132 : Nat) : Int) + (7) = ((139 : Nat) : Int) := ⟨by decide +kernel, rfl, by decide⟩
theorem dMO_startFaults_135 : decode b_MO_startFaults 135 = .ok (.iconst 1, 1) ∧ 135 + 1 = 136 := ⟨by decide +kernel, rfl⟩
theorem dMO_startFaults_136 : decode b_MO_startFaults 136 = .ok (.goto (4), 3) ∧ 136 + 3 = 139 ∧ ((136 : Nat) : Int) + (4) = ((140 : Nat) : Int) := ⟨by decide +kernel, rfl, by decide⟩
theorem dMO_startFaults_139 : decode b_MO_startFaults 139 = .ok (.iconst 0, 1) ∧ 139 + 1 = 140 := ⟨by decide +kernel, rfl⟩
theorem dMO_startFaults_140 : decode b_MO_startFaults 140 = .ok (.if_icmp .eq (14), 3) ∧ 140 + 3 = 143 ∧ ((140 : Nat) : Int) + (14) = ((154 : Nat) : Int) := ⟨by decide +kernel, rfl, by decide⟩
theorem dMO_startFaults_143 : decode b_MO_startFaults 143 = .ok (.aload_n 0, 1) ∧ 143 + 1 = 144 := ⟨by decide +kernel, rfl⟩
theorem dMO_startFaults_144 : decode b_MO_startFaults 144 = .ok (.bipush (34), 2) ∧ 144 + 2 = 146 := ⟨by decide +kernel, rfl⟩
theorem dMO_startFaults_146 : decode b_MO_startFaults 146 = .ok (.bipush (36), 2) ∧ 146 + 2 = 148 := ⟨by decide +kernel, rfl⟩
theorem dMO_startFaults_148 : decode b_MO_startFaults 148 = .ok (.invokevirtual 264, 3) ∧ 148 + 3 = 151 := ⟨by decide +kernel, rfl⟩
theorem dMO_startFaults_151 : decode b_MO_startFaults 151 = .ok (.goto (4), 3) ∧ 151 + 3 = 154 ∧ ((151 : Nat) : Int) + (4) = ((155 : Nat) : Int) := ⟨by decide +kernel, rfl, by decide⟩
theorem dMO_startFaults_154 : decode b_MO_startFaults 154 = .ok (.iconst 0, 1) ∧ 154 + 1 = 155 := ⟨by decide +kernel, rfl⟩
theorem dMO_startFaults_155 : decode b_MO_startFaults 155 = .ok (.ireturn, 1) ∧ 155 + 1 = 156 := ⟨by decide +kernel, rfl⟩
theorem dMO_relocationFault_0 : decode b_MO_relocationFault 0 = .ok (.aload_n 0, 1) ∧ 0 + 1 = 1 := ⟨by decide +kernel, rfl⟩
theorem dMO_relocationFault_1 : decode b_MO_relocationFault 1 = .ok (.iload_n 2, 1) ∧ 1 + 1 = 2 := ⟨by decide +kernel, rfl⟩
theorem dMO_relocationFault_2 : decode b_MO_relocationFault 2 = .ok (.iconst 4, 1) ∧ 2 + 1 = 3 := ⟨by decide +kernel, rfl⟩
theorem dMO_relocationFault_3 : decode b_MO_relocationFault 3 = .ok (.iadd, 1) ∧ 3 + 1 = 4 := ⟨by decide +kernel, rfl⟩
theorem dMO_relocationFault_4 : decode b_MO_relocationFault 4 = .ok (.invokevirtual 260, 3) ∧ 4 + 3 = 7 := ⟨by decide +kernel, rfl⟩
theorem dMO_relocationFault_7 : decode b_MO_relocationFault 7 = .ok (.lstore_n 3, 1) ∧ 7 + 1 = 8 := ⟨by decide +kernel, rfl⟩
theorem dMO_relocationFault_8 : decode b_MO_relocationFault 8 = .ok (.lload_n 3, 1) ∧ 8 + 1 = 9 := ⟨by decide +kernel, rfl⟩
theorem dMO_relocationFault_9 : decode b_MO_relocationFault 9 = .ok (.ldc2_w 337, 3) ∧ 9 + 3 = 12 := ⟨by decide +kernel, rfl⟩
theorem dMO_relocationFault_12 : decode b_MO_relocationFault 12 = .ok (.lrem, 1) ∧ 12 + 1 = 13 := ⟨by decide +kernel, rfl⟩
theorem dMO_relocationFault_13 : decode b_MO_relocationFault 13 = .ok (.l2i, 1) ∧ 13 + 1 = 14 := ⟨by decide +kernel, rfl⟩
theorem dMO_relocationFault_14 : decode b_MO_relocationFault 14 = .ok (.istore 5, 2) ∧ 14 + 2 = 16 := ⟨by decide +kernel, rfl⟩
theorem dMO_relocationFault_16 : decode b_MO_relocationFault 16 = .ok (.lload_n 3, 1) ∧ 16 + 1 = 17 := ⟨by decide +kernel, rfl⟩
theorem dMO_relocationFault_17 : decode b_MO_relocationFault 17 = .ok (.ldc2_w 337, 3) ∧ 17 + 3 = 20 := ⟨by decide +kernel, rfl⟩
theorem dMO_relocationFault_20 : decode b_MO_relocationFault 20 = .ok (.ldiv, 1) ∧ 20 + 1 = 21 := ⟨by decide +kernel, rfl⟩
theorem dMO_relocationFault_21 : decode b_MO_relocationFault 21 = .ok (.lstore 6, 2) ∧ 21 + 2 = 23 := ⟨by decide +kernel, rfl⟩
theorem dMO_relocationFault_23 : decode b_MO_relocationFault 23 = .ok (.iload 5, 2) ∧ 23 + 2 = 25 := ⟨by decide +kernel, rfl⟩
theorem dMO_relocationFault_25 : decode b_MO_relocationFault 25 = .ok (.iload_n 1, 1) ∧ 25 + 1 = 26 := ⟨by decide +kernel, rfl⟩
theorem dMO_relocationFault_26 : decode b_MO_relocationFault 26 = .ok (.invokestatic 152, 3) ∧ 26 + 3 = 29 := ⟨by decide +kernel, rfl⟩
theorem dMO_relocationFault_29 : decode b_MO_relocationFault 29 = .ok (.ifCond .ne (13), 3) ∧ 29 + 3 = 32 ∧ ((29 : Nat) : Int) + (13) = ((42 : Nat) : Int) := ⟨by decide +kernel, rfl, by decide⟩
theorem dMO_relocationFault_32 : decode b_MO_relocationFault 32 = .ok (.aload_n 0, 1) ∧ 32 + 1 = 33 := ⟨by decide +kernel, rfl⟩
theorem dMO_relocationFault_33 : decode b_MO_relocationFault 33 = .ok (.bipush (29), 2) ∧ 33 + 2 = 35 := ⟨by decide +kernel, rfl⟩
theorem dMO_relocationFault_35 : decode b_MO_relocationFault 35 = .ok (.iload_n 2, 1) ∧ 35 + 1 = 36 := ⟨by decide +kernel, rfl⟩
theorem dMO_relocationFault_36 : decode b_MO_relocationFault 36 = .ok (.iconst 4, 1) ∧ 36 + 1 = 37 := ⟨by decide +kernel, rfl⟩
theorem dMO_relocationFault_37 : decode b_MO_relocationFault 37 = .ok (.iadd, 1) ∧ 37 + 1 = 38 := ⟨by decide +kernel, rfl⟩
theorem dMO_relocationFault_38 : decode b_MO_relocationFault 38 = .ok (.invokevirtual 264, 3) ∧ 38 + 3 = 41 := ⟨by decide +kernel, rfl⟩
theorem dMO_relocationFault_41 : decode b_MO_relocationFault 41 = .ok (.ireturn, 1) ∧ 41 + 1 = 42 := ⟨by decide +kernel, rfl⟩
theorem dMO_relocationFault_42 : decode b_MO_relocationFault 42 = .ok (.lload 6, 2) ∧ 42 + 2 = 44 := ⟨by decide +kernel, rfl⟩
theorem dMO_relocationFault_44 : decode b_MO_relocationFault 44 = .ok (.aload_n 0, 1) ∧ 44 + 1 = 45 := ⟨by decide +kernel, rfl⟩
theorem dMO_relocationFault_45 : decode b_MO_relocationFault 45 = .ok (.invokevirtual 334, 3) ∧ 45 + 3 = 48 := ⟨by decide +kernel, rfl⟩
theorem dMO_relocationFault_48 : decode b_MO_relocationFault 48 = .ok (.i2l, 1) ∧ 48 + 1 = 49 := ⟨by decide +kernel, rfl⟩
theorem dMO_relocationFault_49 : decode b_MO_relocationFault 49 = .ok (.lcmp, 1) ∧ 49 + 1 = 50 := ⟨by decide +kernel, rfl⟩
theorem dMO_relocationFault_50 : decode b_MO_relocationFault 50 = .ok (.ifCond .ge (23), 3) ∧ 50 + 3 = 53 ∧ ((50 : Nat) : Int) + (23) = ((73 : Nat) : Int) := ⟨by decide +kernel, rfl, by decide⟩
theorem dMO_relocationFault_53 : decode b_MO_relocationFault 53 = .ok (.iload 5, 2) ∧ 53 + 2 = 55 := ⟨by decide +kernel, rfl⟩
theorem dMO_relocationFault_55 : decode b_MO_relocationFault 55 = .ok (.invokestatic 155, 3) ∧ 55 + 3 = 58 := ⟨by decide +kernel, rfl⟩
theorem dMO_relocationFault_58 : decode b_MO_relocationFault 58 = .ok (.lload 6, 2) ∧ 58 + 2 = 60 := ⟨by decide +kernel, rfl⟩
theorem dMO_relocationFault_60 : decode b_MO_relocationFault 60 = .ok (.lconst 0, 1) ∧ 60 + 1 = 61 := ⟨by decide +kernel, rfl⟩
theorem dMO_relocationFault_61 : decode b_MO_relocationFault 61 = .ok (.lcmp, 1) ∧ 61 + 1 = 62 := ⟨by decide +kernel, rfl⟩
theorem dMO_relocationFault_62 : decode b_MO_relocationFault 62 = .ok (.ifCond .ne (7), 3) ∧ 62 + 3 = 65 ∧ ((62 : Nat) : Int) + (7) = ((69 : Nat) : Int) := ⟨by decide +kernel, rfl, by decide⟩
theorem dMO_relocationFault_65 : decode b_MO_relocationFault 65 = .ok (.iconst 1, 1) ∧ 65 + 1 = 66 := ⟨by decide +kernel, rfl⟩
theorem dMO_relocationFault_66 : decode b_MO_relocationFault 66 = .ok (.goto (4), 3) ∧ 66 + 3 = 69 ∧ ((66 : Nat) : Int) + (4) = ((70 : Nat) : Int) := ⟨by decide +kernel, rfl, by decide⟩
theorem dMO_relocationFault_69 : decode b_MO_relocationFault 69 = .ok (.iconst 0, 1) ∧ 69 + 1 = 70 := ⟨by decide +kernel, rfl⟩
theorem dMO_relocationFault_70 : decode b_MO_relocationFault 70 = .ok (.if_icmp .eq (13), 3) ∧ 70 + 3 = 73 ∧ ((70 : Nat) : Int) + (13) = ((83 : Nat) : Int) := ⟨by decide +kernel, rfl, by decide⟩
theorem dMO_relocationFault_73 : decode b_MO_relocationFault 73 = .ok (.aload_n 0, 1) ∧ 73 + 1 = 74 := ⟨by decide +kernel, rfl⟩
theorem dMO_relocationFault_74 : decode b_MO_relocationFault 74 = .ok (.bipush (30), 2) ∧ 74 + 2 = 76 := ⟨by decide +kernel, rfl⟩
theorem dMO_relocationFault_76 : decode b_MO_relocationFault 76 = .ok (.iload_n 2, 1) ∧ 76 + 1 = 77 := ⟨by decide +kernel, rfl⟩
theorem dMO_relocationFault_77 : decode b_MO_relocationFault 77 = .ok (.iconst 4, 1) ∧ 77 + 1 = 78 := ⟨by decide +kernel, rfl⟩
theorem dMO_relocationFault_78 : decode b_MO_relocationFault 78 = .ok (.iadd, 1) ∧ 78 + 1 = 79 := ⟨by decide +kernel, rfl⟩
theorem dMO_relocationFault_79 : decode b_MO_relocationFault 79 = .ok (.invokevirtual 264, 3) ∧ 79 + 3 = 82 := ⟨by decide +kernel, rfl⟩
theorem dMO_relocationFault_82 : decode b_MO_relocationFault 82 = .ok (.ireturn, 1) ∧ 82 + 1 = 83 := ⟨by decide +kernel, rfl⟩
theorem dMO_relocationFault_83 : decode b_MO_relocationFault 83 = .ok (.aload_n 0, 1) ∧ 83 + 1 = 84 := ⟨by decide +kernel, rfl⟩
theorem dMO_relocationFault_84 : decode b_MO_relocationFault 84 = .ok (.iload_n 2, 1) ∧ 84 + 1 = 85 := ⟨by decide +kernel, rfl⟩
theorem dMO_relocationFault_85 : decode b_MO_relocationFault 85 = .ok (.bipush (8), 2) ∧ 85 + 2 = 87 := ⟨by decide +kernel, rfl⟩
theorem dMO_relocationFault_87 : decode b_MO_relocationFault 87 = .ok (.iadd, 1) ∧ 87 + 1 = 88 := ⟨by decide +kernel, rfl⟩
theorem dMO_relocationFault_88 : decode b_MO_relocationFault 88 = .ok (.invokevirtual 260, 3) ∧ 88 + 3 = 91 := ⟨by decide +kernel, rfl⟩
theorem dMO_relocationFault_91 : decode b_MO_relocationFault 91 = .ok (.lstore 8, 2) ∧ 91 + 2 = 93 := ⟨by decide +kernel, rfl⟩
theorem dMO_relocationFault_93 : decode b_MO_relocationFault 93 = .ok (.iload 5, 2) ∧ 93 + 2 = 95 := ⟨by decide +kernel, rfl⟩
theorem dMO_relocationFault_95 : decode b_MO_relocationFault 95 = .ok (.bipush (43), 2) ∧ 95 + 2 = 97 := ⟨by decide +kernel, rfl⟩
theorem dMO_relocationFault_97 : decode b_MO_relocationFault 97 = .ok (.if_icmp .ne (22), 3) ∧ 97 + 3 = 100 ∧ ((97 : Nat) : Int) + (22) = ((119 : Nat) : Int) := ⟨by decide +kernel, rfl, by decide⟩
theorem dMO_relocationFault_100 : decode b_MO_relocationFault 100 = .ok (.lload 8, 2) ∧ 100 + 2 = 102 := ⟨by decide +kernel, rfl⟩
theorem dMO_relocationFault_102 : decode b_MO_relocationFault 102 = .ok (.invokestatic 158, 3) ∧ 102 + 3 = 105 := ⟨by decide +kernel, rfl⟩
theorem dMO_relocationFault_105 : decode b_MO_relocationFault 105 = .ok (.ifCond .ne (14), 3) ∧ 105 + 3 = 108 ∧ ((105 : Nat) : Int) + (14) = ((119 : Nat) : Int) := ⟨by decide +kernel, rfl, by decide⟩
theorem dMO_relocationFault_108 : decode b_MO_relocationFault 108 = .ok (.aload_n 0, 1) ∧ 108 + 1 = 109 := ⟨by decide +kernel, rfl⟩
theorem dMO_relocationFault_109 : decode b_MO_relocationFault 109 = .ok (.bipush (31), 2) ∧ 109 + 2 = 111 := ⟨by decide +kernel, rfl⟩
theorem dMO_relocationFault_111 : decode b_MO_relocationFault 111 = .ok (.iload_n 2, 1) ∧ 111 + 1 = 112 := ⟨by decide +kernel, rfl⟩
theorem dMO_relocationFault_112 : decode b_MO_relocationFault 112 = .ok (.bipush (8), 2) ∧ 112 + 2 = 114 := ⟨by decide +kernel, rfl⟩
theorem dMO_relocationFault_114 : decode b_MO_relocationFault 114 = .ok (.iadd, 1) ∧ 114 + 1 = 115 := ⟨by decide +kernel, rfl⟩
theorem dMO_relocationFault_115 : decode b_MO_relocationFault 115 = .ok (.invokevirtual 264, 3) ∧ 115 + 3 = 118 := ⟨by decide +kernel, rfl⟩
theorem dMO_relocationFault_118 : decode b_MO_relocationFault 118 = .ok (.ireturn, 1) ∧ 118 + 1 = 119 := ⟨by decide +kernel, rfl⟩
theorem dMO_relocationFault_119 : decode b_MO_relocationFault 119 = .ok (.iload 5, 2) ∧ 119 + 2 = 121 := ⟨by decide +kernel, rfl⟩
theorem dMO_relocationFault_121 : decode b_MO_relocationFault 121 = .ok (.lload 8, 2) ∧ 121 + 2 = 123 := ⟨by decide +kernel, rfl⟩
theorem dMO_relocationFault_123 : decode b_MO_relocationFault 123 = .ok (.l2i, 1) ∧ 123 + 1 = 124 := ⟨by decide +kernel, rfl⟩
theorem dMO_relocationFault_124 : decode b_MO_relocationFault 124 = .ok (.invokestatic 168, 3) ∧ 124 + 3 = 127 := ⟨by decide +kernel, rfl⟩
theorem dMO_relocationFault_127 : decode b_MO_relocationFault 127 = .ok (.istore 10, 2) ∧ 127 + 2 = 129 := ⟨by decide +kernel, rfl⟩
theorem dMO_relocationFault_129 : decode b_MO_relocationFault 129 = .ok (.aload_n 0, 1) ∧ 129 + 1 = 130 := ⟨by decide +kernel, rfl⟩
theorem dMO_relocationFault_130 : decode b_MO_relocationFault 130 = .ok (.iload_n 2, 1) ∧ 130 + 1 = 131 := ⟨by decide +kernel, rfl⟩
theorem dMO_relocationFault_131 : decode b_MO_relocationFault 131 = .ok (.invokevirtual 260, 3) ∧ 131 + 3 = 134 := ⟨by decide +kernel, rfl⟩
theorem dMO_relocationFault_134 : decode b_MO_relocationFault 134 = .ok (.iload 10, 2) ∧ 134 + 2 = 136 := ⟨by decide +kernel, rfl⟩
theorem dMO_relocationFault_136 : decode b_MO_relocationFault 136 = .ok (.i2l, 1) ∧ 136 + 1 = 137 := ⟨by decide +kernel, rfl⟩
theorem dMO_relocationFault_137 : decode b_MO_relocationFault 137 = .ok (.ladd, 1) ∧ 137 + 1 = 138 := ⟨by decide +kernel, rfl⟩
theorem dMO_relocationFault_138 : decode b_MO_relocationFault 138 = .ok (.aload_n 0, 1) ∧ 138 + 1 = 139 := ⟨by decide +kernel, rfl⟩
theorem dMO_relocationFault_139 : decode b_MO_relocationFault 139 = .ok (.iload_n 1, 1) ∧ 139 + 1 = 140 := ⟨by decide +kernel, rfl⟩
theorem dMO_relocationFault_140 : decode b_MO_relocationFault 140 = .ok (.invokevirtual 302, 3) ∧ 140 + 3 = 143 := ⟨by decide +kernel, rfl⟩
theorem dMO_relocationFault_143 : decode b_MO_relocationFault 143 = .ok (.lcmp, 1) ∧ 143 + 1 = 144 := ⟨by decide +kernel, rfl⟩
theorem dMO_relocationFault_144 : decode b_MO_relocationFault 144 = .ok (.ifCond .le (13), 3) ∧ 144 + 3 = 147 ∧ ((144 : Nat) : Int) + (13) = ((157 : Nat) : Int) := ⟨by decide +kernel, rfl, by decide⟩
theorem dMO_relocationFault_147 : decode b_MO_relocationFault 147 = .ok (.aload_n 0, 1) ∧ 147 + 1 = 148 := ⟨by decide +kernel, rfl⟩
theorem dMO_relocationFault_148 : decode b_MO_relocationFault 148 = .ok (.bipush (32), 2) ∧ 148 + 2 = 150 := ⟨by decide +kernel, rfl⟩
theorem dMO_relocationFault_150 : decode b_MO_relocationFault 150 = .ok (.iload_n 2, 1) ∧ 150 + 1 = 151 := ⟨by decide +kernel, rfl⟩
theorem dMO_relocationFault_151 : decode b_MO_relocationFault 151 = .ok (.invokevirtual 264, 3) ∧ 151 + 3 = 154 := ⟨by decide +kernel, rfl⟩
theorem dMO_relocationFault_154 : decode b_MO_relocationFault 154 = .ok (.goto (4), 3) ∧ 154 + 3 = 157 ∧ ((154 : Nat) : Int) + (4) = ((158 : Nat) : Int) := ⟨by decide +kernel, rfl, by decide⟩
theorem dMO_relocationFault_157 : decode b_MO_relocationFault 157 = .ok (.iconst 0, 1) ∧ 157 + 1 = 158 := ⟨by decide +kernel, rfl⟩
theorem dMO_relocationFault_158 : decode b_MO_relocationFault 158 = .ok (.ireturn, 1) ∧ 158 + 1 = 159 := ⟨by decide +kernel, rfl⟩
theorem dMO_namePlace_0 : decode b_MO_namePlace 0 = .ok (.aload_n 0, 1) ∧ 0 + 1 = 1 := ⟨by decide +kernel, rfl⟩
theorem dMO_namePlace_1 : decode b_MO_namePlace 1 = .ok (.bipush (9), 2) ∧ 1 + 2 = 3 := ⟨by decide +kernel, rfl⟩
theorem dMO_namePlace_3 : decode b_MO_namePlace 3 = .ok (.invokevirtual 305, 3) ∧ 3 + 3 = 6 := ⟨by decide +kernel, rfl⟩
theorem dMO_namePlace_6 : decode b_MO_namePlace 6 = .ok (.aload_n 0, 1) ∧ 6 + 1 = 7 := ⟨by decide +kernel, rfl⟩
theorem dMO_namePlace_7 : decode b_MO_namePlace 7 = .ok (.aload_n 0, 1) ∧ 7 + 1 = 8 := ⟨by decide +kernel, rfl⟩
theorem dMO_namePlace_8 : decode b_MO_namePlace 8 = .ok (.iload_n 1, 1) ∧ 8 + 1 = 9 := ⟨by decide +kernel, rfl⟩
theorem dMO_namePlace_9 : decode b_MO_namePlace 9 = .ok (.invokevirtual 311, 3) ∧ 9 + 3 = 12 := ⟨by decide +kernel, rfl⟩
theorem dMO_namePlace_12 : decode b_MO_namePlace 12 = .ok (.invokevirtual 260, 3) ∧ 12 + 3 = 15 := ⟨by decide +kernel, rfl⟩
theorem dMO_namePlace_15 : decode b_MO_namePlace 15 = .ok (.l2i, 1) ∧ 15 + 1 = 16 := ⟨by decide +kernel, rfl⟩
theorem dMO_namePlace_16 : decode b_MO_namePlace 16 = .ok (.iadd, 1) ∧ 16 + 1 = 17 := ⟨by decide +kernel, rfl⟩
theorem dMO_namePlace_17 : decode b_MO_namePlace 17 = .ok (.ireturn, 1) ∧ 17 + 1 = 18 := ⟨by decide +kernel, rfl⟩
theorem dMO_nameLength_0 : decode b_MO_nameLength 0 = .ok (.iconst 0, 1) ∧ 0 + 1 = 1 := ⟨by decide +kernel, rfl⟩
theorem dMO_nameLength_1 : decode b_MO_nameLength 1 = .ok (.istore_n 2, 1) ∧ 1 + 1 = 2 := ⟨by decide +kernel, rfl⟩
theorem dMO_nameLength_2 : decode b_MO_nameLength 2 = .ok (.aload_n 0, 1) ∧ 2 + 1 = 3 := ⟨by decide +kernel, rfl⟩
theorem dMO_nameLength_3 : decode b_MO_nameLength 3 = .ok (.getfield 70, 3) ∧ 3 + 3 = 6 := ⟨by decide +kernel, rfl⟩
theorem dMO_nameLength_6 : decode b_MO_nameLength 6 = .ok (.iload_n 1, 1) ∧ 6 + 1 = 7 := ⟨by decide +kernel, rfl⟩
theorem dMO_nameLength_7 : decode b_MO_nameLength 7 = .ok (.iload_n 2, 1) ∧ 7 + 1 = 8 := ⟨by decide +kernel, rfl⟩
theorem dMO_nameLength_8 : decode b_MO_nameLength 8 = .ok (.iadd, 1) ∧ 8 + 1 = 9 := ⟨by decide +kernel, rfl⟩
theorem dMO_nameLength_9 : decode b_MO_nameLength 9 = .ok (.iaload, 1) ∧ 9 + 1 = 10 := ⟨by decide +kernel, rfl⟩
theorem dMO_nameLength_10 : decode b_MO_nameLength 10 = .ok (.ifCond .eq (9), 3) ∧ 10 + 3 = 13 ∧ ((10 : Nat) : Int) + (9) = ((19 : Nat) : Int) := ⟨by decide +kernel, rfl, by decide⟩
theorem dMO_nameLength_13 : decode b_MO_nameLength 13 = .ok (.iinc 2 (1), 3) ∧ 13 + 3 = 16 := ⟨by decide +kernel, rfl⟩
theorem dMO_nameLength_16 : decode b_MO_nameLength 16 = .ok (.goto (-14), 3) ∧ 16 + 3 = 19 ∧ ((16 : Nat) : Int) + (-14) = ((2 : Nat) : Int) := ⟨by decide +kernel, rfl, by decide⟩
theorem dMO_nameLength_19 : decode b_MO_nameLength 19 = .ok (.iload_n 2, 1) ∧ 19 + 1 = 20 := ⟨by decide +kernel, rfl⟩
theorem dMO_nameLength_20 : decode b_MO_nameLength 20 = .ok (.ireturn, 1) ∧ 20 + 1 = 21 := ⟨by decide +kernel, rfl⟩
theorem dMO_isName_0 : decode b_MO_isName 0 = .ok (.aload_n 0, 1) ∧ 0 + 1 = 1 := ⟨by decide +kernel, rfl⟩
theorem dMO_isName_1 : decode b_MO_isName 1 = .ok (.iload_n 1, 1) ∧ 1 + 1 = 2 := ⟨by decide +kernel, rfl⟩
theorem dMO_isName_2 : decode b_MO_isName 2 = .ok (.invokevirtual 308, 3) ∧ 2 + 3 = 5 := ⟨by decide +kernel, rfl⟩
theorem dMO_isName_5 : decode b_MO_isName 5 = .ok (.istore_n 2, 1) ∧ 5 + 1 = 6 := ⟨by decide +kernel, rfl⟩
theorem dMO_isName_6 : decode b_MO_isName 6 = .ok (.iload_n 2, 1) ∧ 6 + 1 = 7 := ⟨by decide +kernel, rfl⟩
theorem dMO_isName_7 : decode b_MO_isName 7 = .ok (.ifCond .le (13), 3) ∧ 7 + 3 = 10 ∧ ((7 : Nat) : Int) + (13) = ((20 : Nat) : Int) := ⟨by decide +kernel, rfl, by decide⟩
theorem dMO_isName_10 : decode b_MO_isName 10 = .ok (.iload_n 2, 1) ∧ 10 + 1 = 11 := ⟨by decide +kernel, rfl⟩
theorem dMO_isName_11 : decode b_MO_isName 11 = .ok (.bipush (16), 2) ∧ 11 + 2 = 13 := ⟨by decide +kernel, rfl⟩
theorem dMO_isName_13 : decode b_MO_isName 13 = .ok (.if_icmp .gt (7), 3) ∧ 13 + 3 = 16 ∧ ((13 : Nat) : Int) + (7) = ((20 : Nat) : Int) := ⟨by decide +kernel, rfl, by decide⟩
theorem dMO_isName_16 : decode b_MO_isName 16 = .ok (.iconst 1, 1) ∧ 16 + 1 = 17 := ⟨by decide +kernel, rfl⟩
theorem dMO_isName_17 : decode b_MO_isName 17 = .ok (.goto (4), 3) ∧ 17 + 3 = 20 ∧ ((17 : Nat) : Int) + (4) = ((21 : Nat) : Int) := ⟨by decide +kernel, rfl, by decide⟩
theorem dMO_isName_20 : decode b_MO_isName 20 = .ok (.iconst 0, 1) ∧ 20 + 1 = 21 := ⟨by decide +kernel, rfl⟩
theorem dMO_isName_21 : decode b_MO_isName 21 = .ok (.istore_n 3, 1) ∧ 21 + 1 = 22 := ⟨by decide +kernel, rfl⟩
theorem dMO_isName_22 : decode b_MO_isName 22 = .ok (.iconst 0, 1) ∧ 22 + 1 = 23 := ⟨by decide +kernel, rfl⟩
theorem dMO_isName_23 : decode b_MO_isName 23 = .ok (.istore 4, 2) ∧ 23 + 2 = 25 := ⟨by decide +kernel, rfl⟩
theorem dMO_isName_25 : decode b_MO_isName 25 = .ok (.iload 4, 2) ∧ 25 + 2 = 27 := ⟨by decide +kernel, rfl⟩
theorem dMO_isName_27 : decode b_MO_isName 27 = .ok (.iload_n 2, 1) ∧ 27 + 1 = 28 := ⟨by decide +kernel, rfl⟩
theorem dMO_isName_28 : decode b_MO_isName 28 = .ok (.if_icmp .ge (47), 3) ∧ 28 + 3 = 31 ∧ ((28 : Nat) : Int) + (47) = ((75 : Nat) : Int) := ⟨by decide +kernel, rfl, by decide⟩
theorem dMO_isName_31 : decode b_MO_isName 31 = .ok (.iload_n 3, 1) ∧ 31 + 1 = 32 := ⟨by decide +kernel, rfl⟩
theorem dMO_isName_32 : decode b_MO_isName 32 = .ok (.ifCond .eq (35), 3) ∧ 32 + 3 = 35 ∧ ((32 : Nat) : Int) + (35) = ((67 : Nat) : Int) := ⟨by decide +kernel, rfl, by decide⟩
theorem dMO_isName_35 : decode b_MO_isName 35 = .ok (.aload_n 0, 1) ∧ 35 + 1 = 36 := ⟨by decide +kernel, rfl⟩
theorem dMO_isName_36 : decode b_MO_isName 36 = .ok (.getfield 70, 3) ∧ 36 + 3 = 39 := ⟨by decide +kernel, rfl⟩
theorem dMO_isName_39 : decode b_MO_isName 39 = .ok (.iload_n 1, 1) ∧ 39 + 1 = 40 := ⟨by decide +kernel, rfl⟩
theorem dMO_isName_40 : decode b_MO_isName 40 = .ok (.iload 4, 2) ∧ 40 + 2 = 42 := ⟨by decide +kernel, rfl⟩
theorem dMO_isName_42 : decode b_MO_isName 42 = .ok (.iadd, 1) ∧ 42 + 1 = 43 := ⟨by decide +kernel, rfl⟩
theorem dMO_isName_43 : decode b_MO_isName 43 = .ok (.iaload, 1) ∧ 43 + 1 = 44 := ⟨by decide +kernel, rfl⟩
theorem dMO_isName_44 : decode b_MO_isName 44 = .ok (.bipush (33), 2) ∧ 44 + 2 = 46 := ⟨by decide +kernel, rfl⟩
theorem dMO_isName_46 : decode b_MO_isName 46 = .ok (.if_icmp .lt (21), 3) ∧ 46 + 3 = 49 ∧ ((46 : Nat) : Int) + (21) = ((67 : Nat) : Int) := ⟨by decide +kernel, rfl, by decide⟩
theorem dMO_isName_49 : decode b_MO_isName 49 = .ok (.aload_n 0, 1) ∧ 49 + 1 = 50 := ⟨by decide +kernel, rfl⟩
theorem dMO_isName_50 : decode b_MO_isName 50 = .ok (.getfield 70, 3) ∧ 50 + 3 = 53 := ⟨by decide +kernel, rfl⟩
theorem dMO_isName_53 : decode b_MO_isName 53 = .ok (.iload_n 1, 1) ∧ 53 + 1 = 54 := ⟨by decide +kernel, rfl⟩
theorem dMO_isName_54 : decode b_MO_isName 54 = .ok (.iload 4, 2) ∧ 54 + 2 = 56 := ⟨by decide +kernel, rfl⟩
theorem dMO_isName_56 : decode b_MO_isName 56 = .ok (.iadd, 1) ∧ 56 + 1 = 57 := ⟨by decide +kernel, rfl⟩
theorem dMO_isName_57 : decode b_MO_isName 57 = .ok (.iaload, 1) ∧ 57 + 1 = 58 := ⟨by decide +kernel, rfl⟩
theorem dMO_isName_58 : decode b_MO_isName 58 = .ok (.bipush (126), 2) ∧ 58 + 2 = 60 := ⟨by decide +kernel, rfl⟩
theorem dMO_isName_60 : decode b_MO_isName 60 = .ok (.if_icmp .gt (7), 3) ∧ 60 + 3 = 63 ∧ ((60 : Nat) : Int) + (7) = ((67 : Nat) : Int) := ⟨by decide +kernel, rfl, by decide⟩
theorem dMO_isName_63 : decode b_MO_isName 63 = .ok (.iconst 1, 1) ∧ 63 + 1 = 64 := ⟨by decide +kernel, rfl⟩
theorem dMO_isName_64 : decode b_MO_isName 64 = .ok (.goto (4), 3) ∧ 64 + 3 = 67 ∧ ((64 : Nat) : Int) + (4) = ((68 : Nat) : Int) := ⟨by decide +kernel, rfl, by decide⟩
theorem dMO_isName_67 : decode b_MO_isName 67 = .ok (.iconst 0, 1) ∧ 67 + 1 = 68 := ⟨by decide +kernel, rfl⟩
theorem dMO_isName_68 : decode b_MO_isName 68 = .ok (.istore_n 3, 1) ∧ 68 + 1 = 69 := ⟨by decide +kernel, rfl⟩
theorem dMO_isName_69 : decode b_MO_isName 69 = .ok (.iinc 4 (1), 3) ∧ 69 + 3 = 72 := ⟨by decide +kernel, rfl⟩
theorem dMO_isName_72 : decode b_MO_isName 72 = .ok (.goto (-47), 3) ∧ 72 + 3 = 75 ∧ ((72 : Nat) : Int) + (-47) = ((25 : Nat) : Int) := ⟨by decide +kernel, rfl, by decide⟩
theorem dMO_isName_75 : decode b_MO_isName 75 = .ok (.iload_n 3, 1) ∧ 75 + 1 = 76 := ⟨by decide +kernel, rfl⟩
theorem dMO_isName_76 : decode b_MO_isName 76 = .ok (.ireturn, 1) ∧ 76 + 1 = 77 := ⟨by decide +kernel, rfl⟩
theorem dMO_whereOf_0 : decode b_MO_whereOf 0 = .ok (.aload_n 0, 1) ∧ 0 + 1 = 1 := ⟨by decide +kernel, rfl⟩
theorem dMO_whereOf_1 : decode b_MO_whereOf 1 = .ok (.aload_n 0, 1) ∧ 1 + 1 = 2 := ⟨by decide +kernel, rfl⟩
theorem dMO_whereOf_2 : decode b_MO_whereOf 2 = .ok (.iload_n 1, 1) ∧ 2 + 1 = 3 := ⟨by decide +kernel, rfl⟩
theorem dMO_whereOf_3 : decode b_MO_whereOf 3 = .ok (.invokevirtual 311, 3) ∧ 3 + 3 = 6 := ⟨by decide +kernel, rfl⟩
theorem dMO_whereOf_6 : decode b_MO_whereOf 6 = .ok (.bipush (14), 2) ∧ 6 + 2 = 8 := ⟨by decide +kernel, rfl⟩
theorem dMO_whereOf_8 : decode b_MO_whereOf 8 = .ok (.iadd, 1) ∧ 8 + 1 = 9 := ⟨by decide +kernel, rfl⟩
theorem dMO_whereOf_9 : decode b_MO_whereOf 9 = .ok (.invokevirtual 249, 3) ∧ 9 + 3 = 12 := ⟨by decide +kernel, rfl⟩
theorem dMO_whereOf_12 : decode b_MO_whereOf 12 = .ok (.istore_n 2, 1) ∧ 12 + 1 = 13 := ⟨by decide +kernel, rfl⟩
theorem dMO_whereOf_13 : decode b_MO_whereOf 13 = .ok (.iload_n 2, 1) ∧ 13 + 1 = 14 := ⟨by decide +kernel, rfl⟩
theorem dMO_whereOf_14 : decode b_MO_whereOf 14 = .ok (.ifCond .ne (5), 3) ∧ 14 + 3 = 17 ∧ ((14 : Nat) : Int) + (5) = ((19 : Nat) : Int) := ⟨by decide +kernel, rfl, by decide⟩
theorem dMO_whereOf_17 : decode b_MO_whereOf 17 = .ok (.iconst (-1), 1) ∧ 17 + 1 = 18 := ⟨by decide +kernel, rfl⟩
theorem dMO_whereOf_18 : decode b_MO_whereOf 18 = .ok (.ireturn, 1) ∧ 18 + 1 = 19 := ⟨by decide +kernel, rfl⟩
theorem dMO_whereOf_19 : decode b_MO_whereOf 19 = .ok (.iload_n 2, 1) ∧ 19 + 1 = 20 := ⟨by decide +kernel, rfl⟩
theorem dMO_whereOf_20 : decode b_MO_whereOf 20 = .ok (.ldc 225, 2) ∧ 20 + 2 = 22 := ⟨by decide +kernel, rfl⟩
theorem dMO_whereOf_22 : decode b_MO_whereOf 22 = .ok (.if_icmp .ne (5), 3) ∧ 22 + 3 = 25 ∧ ((22 : Nat) : Int) + (5) = ((27 : Nat) : Int) := ⟨by decide +kernel, rfl, by decide⟩
theorem dMO_whereOf_25 : decode b_MO_whereOf 25 = .ok (.iconst 4, 1) ∧ 25 + 1 = 26 := ⟨by decide +kernel, rfl⟩
theorem dMO_whereOf_26 : decode b_MO_whereOf 26 = .ok (.ireturn, 1) ∧ 26 + 1 = 27 := ⟨by decide +kernel, rfl⟩
theorem dMO_whereOf_27 : decode b_MO_whereOf 27 = .ok (.iload_n 2, 1) ∧ 27 + 1 = 28 := ⟨by decide +kernel, rfl⟩
theorem dMO_whereOf_28 : decode b_MO_whereOf 28 = .ok (.ldc 226, 2) ∧ 28 + 2 = 30 := ⟨by decide +kernel, rfl⟩
theorem dMO_whereOf_30 : decode b_MO_whereOf 30 = .ok (.if_icmp .ne (5), 3) ∧ 30 + 3 = 33 ∧ ((30 : Nat) : Int) + (5) = ((35 : Nat) : Int) := ⟨by decide +kernel, rfl, by decide⟩
theorem dMO_whereOf_33 : decode b_MO_whereOf 33 = .ok (.iconst 5, 1) ∧ 33 + 1 = 34 := ⟨by decide +kernel, rfl⟩
theorem dMO_whereOf_34 : decode b_MO_whereOf 34 = .ok (.ireturn, 1) ∧ 34 + 1 = 35 := ⟨by decide +kernel, rfl⟩
theorem dMO_whereOf_35 : decode b_MO_whereOf 35 = .ok (.iconst 0, 1) ∧ 35 + 1 = 36 := ⟨by decide +kernel, rfl⟩
theorem dMO_whereOf_36 : decode b_MO_whereOf 36 = .ok (.istore_n 3, 1) ∧ 36 + 1 = 37 := ⟨by decide +kernel, rfl⟩
theorem dMO_whereOf_37 : decode b_MO_whereOf 37 = .ok (.iload_n 3, 1) ∧ 37 + 1 = 38 := ⟨by decide +kernel, rfl⟩
theorem dMO_whereOf_38 : decode b_MO_whereOf 38 = .ok (.iconst 4, 1) ∧ 38 + 1 = 39 := ⟨by decide +kernel, rfl⟩
theorem dMO_whereOf_39 : decode b_MO_whereOf 39 = .ok (.if_icmp .ge (21), 3) ∧ 39 + 3 = 42 ∧ ((39 : Nat) : Int) + (21) = ((60 : Nat) : Int) := ⟨by decide +kernel, rfl, by decide⟩
theorem dMO_whereOf_42 : decode b_MO_whereOf 42 = .ok (.aload_n 0, 1) ∧ 42 + 1 = 43 := ⟨by decide +kernel, rfl⟩
theorem dMO_whereOf_43 : decode b_MO_whereOf 43 = .ok (.getfield 107, 3) ∧ 43 + 3 = 46 := ⟨by decide +kernel, rfl⟩
theorem dMO_whereOf_46 : decode b_MO_whereOf 46 = .ok (.iload_n 3, 1) ∧ 46 + 1 = 47 := ⟨by decide +kernel, rfl⟩
theorem dMO_whereOf_47 : decode b_MO_whereOf 47 = .ok (.iaload, 1) ∧ 47 + 1 = 48 := ⟨by decide +kernel, rfl⟩
theorem dMO_whereOf_48 : decode b_MO_whereOf 48 = .ok (.iload_n 2, 1) ∧ 48 + 1 = 49 := ⟨by decide +kernel, rfl⟩
theorem dMO_whereOf_49 : decode b_MO_whereOf 49 = .ok (.if_icmp .ne (5), 3) ∧ 49 + 3 = 52 ∧ ((49 : Nat) : Int) + (5) = ((54 : Nat) : Int) := ⟨by decide +kernel, rfl, by decide⟩
theorem dMO_whereOf_52 : decode b_MO_whereOf 52 = .ok (.iload_n 3, 1) ∧ 52 + 1 = 53 := ⟨by decide +kernel, rfl⟩
theorem dMO_whereOf_53 : decode b_MO_whereOf 53 = .ok (.ireturn, 1) ∧ 53 + 1 = 54 := ⟨by decide +kernel, rfl⟩
theorem dMO_whereOf_54 : decode b_MO_whereOf 54 = .ok (.iinc 3 (1), 3) ∧ 54 + 3 = 57 := ⟨by decide +kernel, rfl⟩
theorem dMO_whereOf_57 : decode b_MO_whereOf 57 = .ok (.goto (-20), 3) ∧ 57 + 3 = 60 ∧ ((57 : Nat) : Int) + (-20) = ((37 : Nat) : Int) := ⟨by decide +kernel, rfl, by decide⟩
theorem dMO_whereOf_60 : decode b_MO_whereOf 60 = .ok (.bipush (-2), 2) ∧ 60 + 2 = 62 := ⟨by decide +kernel, rfl⟩
theorem dMO_whereOf_62 : decode b_MO_whereOf 62 = .ok (.ireturn, 1) ∧ 62 + 1 = 63 := ⟨by decide +kernel, rfl⟩
theorem dMO_amiss_0 : decode b_MO_amiss 0 = .ok (.aload_n 0, 1) ∧ 0 + 1 = 1 := ⟨by decide +kernel, rfl⟩
theorem dMO_amiss_1 : decode b_MO_amiss 1 = .ok (.iload_n 1, 1) ∧ 1 + 1 = 2 := ⟨by decide +kernel, rfl⟩
theorem dMO_amiss_2 : decode b_MO_amiss 2 = .ok (.invokevirtual 311, 3) ∧ 2 + 3 = 5 := ⟨by decide +kernel, rfl⟩
theorem dMO_amiss_5 : decode b_MO_amiss 5 = .ok (.istore_n 2, 1) ∧ 5 + 1 = 6 := ⟨by decide +kernel, rfl⟩
theorem dMO_amiss_6 : decode b_MO_amiss 6 = .ok (.aload_n 0, 1) ∧ 6 + 1 = 7 := ⟨by decide +kernel, rfl⟩
theorem dMO_amiss_7 : decode b_MO_amiss 7 = .ok (.iload_n 1, 1) ∧ 7 + 1 = 8 := ⟨by decide +kernel, rfl⟩
theorem dMO_amiss_8 : decode b_MO_amiss 8 = .ok (.invokevirtual 317, 3) ∧ 8 + 3 = 11 := ⟨by decide +kernel, rfl⟩
theorem dMO_amiss_11 : decode b_MO_amiss 11 = .ok (.istore_n 3, 1) ∧ 11 + 1 = 12 := ⟨by decide +kernel, rfl⟩
theorem dMO_amiss_12 : decode b_MO_amiss 12 = .ok (.aload_n 0, 1) ∧ 12 + 1 = 13 := ⟨by decide +kernel, rfl⟩
theorem dMO_amiss_13 : decode b_MO_amiss 13 = .ok (.iload_n 2, 1) ∧ 13 + 1 = 14 := ⟨by decide +kernel, rfl⟩
theorem dMO_amiss_14 : decode b_MO_amiss 14 = .ok (.iconst 4, 1) ∧ 14 + 1 = 15 := ⟨by decide +kernel, rfl⟩
theorem dMO_amiss_15 : decode b_MO_amiss 15 = .ok (.iadd, 1) ∧ 15 + 1 = 16 := ⟨by decide +kernel, rfl⟩
theorem dMO_amiss_16 : decode b_MO_amiss 16 = .ok (.invokevirtual 260, 3) ∧ 16 + 3 = 19 := ⟨by decide +kernel, rfl⟩
theorem dMO_amiss_19 : decode b_MO_amiss 19 = .ok (.lstore 4, 2) ∧ 19 + 2 = 21 := ⟨by decide +kernel, rfl⟩
theorem dMO_amiss_21 : decode b_MO_amiss 21 = .ok (.aload_n 0, 1) ∧ 21 + 1 = 22 := ⟨by decide +kernel, rfl⟩
theorem dMO_amiss_22 : decode b_MO_amiss 22 = .ok (.iload_n 2, 1) ∧ 22 + 1 = 23 := ⟨by decide +kernel, rfl⟩
theorem dMO_amiss_23 : decode b_MO_amiss 23 = .ok (.bipush (8), 2) ∧ 23 + 2 = 25 := ⟨by decide +kernel, rfl⟩
theorem dMO_amiss_25 : decode b_MO_amiss 25 = .ok (.iadd, 1) ∧ 25 + 1 = 26 := ⟨by decide +kernel, rfl⟩
theorem dMO_amiss_26 : decode b_MO_amiss 26 = .ok (.invokevirtual 260, 3) ∧ 26 + 3 = 29 := ⟨by decide +kernel, rfl⟩
theorem dMO_amiss_29 : decode b_MO_amiss 29 = .ok (.lstore 6, 2) ∧ 29 + 2 = 31 := ⟨by decide +kernel, rfl⟩
theorem dMO_amiss_31 : decode b_MO_amiss 31 = .ok (.iload_n 3, 1) ∧ 31 + 1 = 32 := ⟨by decide +kernel, rfl⟩
theorem dMO_amiss_32 : decode b_MO_amiss 32 = .ok (.iconst (-1), 1) ∧ 32 + 1 = 33 := ⟨by decide +kernel, rfl⟩
theorem dMO_amiss_33 : decode b_MO_amiss 33 = .ok (.if_icmp .ne (41), 3) ∧ 33 + 3 = 36 ∧ ((33 : Nat) : Int) + (41) = ((74 : Nat) : Int) := ⟨by decide +kernel, rfl, by decide⟩
theorem dMO_amiss_36 : decode b_MO_amiss 36 = .ok (.lload 4, 2) ∧ 36 + 2 = 38 := ⟨by decide +kernel, rfl⟩
theorem dMO_amiss_38 : decode b_MO_amiss 38 = .ok (.lconst 0, 1) ∧ 38 + 1 = 39 := ⟨by decide +kernel, rfl⟩
theorem dMO_amiss_39 : decode b_MO_amiss 39 = .ok (.lcmp, 1) ∧ 39 + 1 = 40 := ⟨by decide +kernel, rfl⟩
theorem dMO_amiss_40 : decode b_MO_amiss 40 = .ok (.ifCond .eq (7), 3) ∧ 40 + 3 = 43 ∧ ((40 : Nat) : Int) + (7) = ((47 : Nat) : Int) := ⟨by decide +kernel, rfl, by decide⟩
theorem dMO_amiss_43 : decode b_MO_amiss 43 = .ok (.iconst 4, 1) ∧ 43 + 1 = 44 := ⟨by decide +kernel, rfl⟩
theorem dMO_amiss_44 : decode b_MO_amiss 44 = .ok (.goto (29), 3) ∧ 44 + 3 = 47 ∧ ((44 : Nat) : Int) + (29) = ((73 : Nat) : Int) := ⟨by decide +kernel, rfl, by decide⟩
theorem dMO_amiss_47 : decode b_MO_amiss 47 = .ok (.lload 6, 2) ∧ 47 + 2 = 49 := ⟨by decide +kernel, rfl⟩
theorem dMO_amiss_49 : decode b_MO_amiss 49 = .ok (.lconst 0, 1) ∧ 49 + 1 = 50 := ⟨by decide +kernel, rfl⟩
theorem dMO_amiss_50 : decode b_MO_amiss 50 = .ok (.lcmp, 1) ∧ 50 + 1 = 51 := ⟨by decide +kernel, rfl⟩
theorem dMO_amiss_51 : decode b_MO_amiss 51 = .ok (.ifCond .eq (8), 3) ∧ 51 + 3 = 54 ∧ ((51 : Nat) : Int) + (8) = ((59 : Nat) : Int) := ⟨by decide +kernel, rfl, by decide⟩
theorem dMO_amiss_54 : decode b_MO_amiss 54 = .ok (.bipush (8), 2) ∧ 54 + 2 = 56 := ⟨by decide +kernel, rfl⟩
theorem dMO_amiss_56 : decode b_MO_amiss 56 = .ok (.goto (17), 3) ∧ 56 + 3 = 59 ∧ ((56 : Nat) : Int) + (17) = ((73 : Nat) : Int) := ⟨by decide +kernel, rfl, by decide⟩
theorem dMO_amiss_59 : decode b_MO_amiss 59 = .ok (.aload_n 0, 1) ∧ 59 + 1 = 60 := ⟨by decide +kernel, rfl⟩
theorem dMO_amiss_60 : decode b_MO_amiss 60 = .ok (.iload_n 1, 1) ∧ 60 + 1 = 61 := ⟨by decide +kernel, rfl⟩
theorem dMO_amiss_61 : decode b_MO_amiss 61 = .ok (.invokevirtual 320, 3) ∧ 61 + 3 = 64 := ⟨by decide +kernel, rfl⟩
theorem dMO_amiss_64 : decode b_MO_amiss 64 = .ok (.ifCond .ne (8), 3) ∧ 64 + 3 = 67 ∧ ((64 : Nat) : Int) + (8) = ((72 : Nat) : Int) := ⟨by decide +kernel, rfl, by decide⟩
theorem dMO_amiss_67 : decode b_MO_amiss 67 = .ok (.bipush (12), 2) ∧ 67 + 2 = 69 := ⟨by decide +kernel, rfl⟩
theorem dMO_amiss_69 : decode b_MO_amiss 69 = .ok (.goto (4), 3) ∧ 69 + 3 = 72 ∧ ((69 : Nat) : Int) + (4) = ((73 : Nat) : Int) := ⟨by decide +kernel, rfl, by decide⟩
theorem dMO_amiss_72 : decode b_MO_amiss 72 = .ok (.iconst 0, 1) ∧ 72 + 1 = 73 := ⟨by decide +kernel, rfl⟩
theorem dMO_amiss_73 : decode b_MO_amiss 73 = .ok (.ireturn, 1) ∧ 73 + 1 = 74 := ⟨by decide +kernel, rfl⟩
theorem dMO_amiss_74 : decode b_MO_amiss 74 = .ok (.iload_n 3, 1) ∧ 74 + 1 = 75 := ⟨by decide +kernel, rfl⟩
theorem dMO_amiss_75 : decode b_MO_amiss 75 = .ok (.iconst 5, 1) ∧ 75 + 1 = 76 := ⟨by decide +kernel, rfl⟩
theorem dMO_amiss_76 : decode b_MO_amiss 76 = .ok (.if_icmp .ne (62), 3) ∧ 76 + 3 = 79 ∧ ((76 : Nat) : Int) + (62) = ((138 : Nat) : Int) := ⟨by decide +kernel, rfl, by decide⟩
theorem dMO_amiss_79 : decode b_MO_amiss 79 = .ok (.lload 4, 2) ∧ 79 + 2 = 81 := ⟨by decide +kernel, rfl⟩
theorem dMO_amiss_81 : decode b_MO_amiss 81 = .ok (.ldc2_w 279, 3) ∧ 81 + 3 = 84 := ⟨by decide +kernel, rfl⟩
theorem dMO_amiss_84 : decode b_MO_amiss 84 = .ok (.lcmp, 1) ∧ 84 + 1 = 85 := ⟨by decide +kernel, rfl⟩
theorem dMO_amiss_85 : decode b_MO_amiss 85 = .ok (.ifCond .gt (12), 3) ∧ 85 + 3 = 88 ∧ ((85 : Nat) : Int) + (12) = ((97 : Nat) : Int) := ⟨by decide +kernel, rfl, by decide⟩
theorem dMO_amiss_88 : decode b_MO_amiss 88 = .ok (.lload 4, 2) ∧ 88 + 2 = 90 := ⟨by decide +kernel, rfl⟩
theorem dMO_amiss_90 : decode b_MO_amiss 90 = .ok (.l2i, 1) ∧ 90 + 1 = 91 := ⟨by decide +kernel, rfl⟩
theorem dMO_amiss_91 : decode b_MO_amiss 91 = .ok (.invokestatic 141, 3) ∧ 91 + 3 = 94 := ⟨by decide +kernel, rfl⟩
theorem dMO_amiss_94 : decode b_MO_amiss 94 = .ok (.ifCond .ne (7), 3) ∧ 94 + 3 = 97 ∧ ((94 : Nat) : Int) + (7) = ((101 : Nat) : Int) := ⟨by decide +kernel, rfl, by decide⟩
theorem dMO_amiss_97 : decode b_MO_amiss 97 = .ok (.iconst 4, 1) ∧ 97 + 1 = 98 := ⟨by decide +kernel, rfl⟩
theorem dMO_amiss_98 : decode b_MO_amiss 98 = .ok (.goto (39), 3) ∧ 98 + 3 = 101 ∧ ((98 : Nat) : Int) + (39) = ((137 : Nat) : Int) := ⟨by decide +kernel, rfl, by decide⟩
theorem dMO_amiss_101 : decode b_MO_amiss 101 = .ok (.lload 6, 2) ∧ 101 + 2 = 103 := ⟨by decide +kernel, rfl⟩
theorem dMO_amiss_103 : decode b_MO_amiss 103 = .ok (.lconst 1, 1) ∧ 103 + 1 = 104 := ⟨by decide +kernel, rfl⟩
theorem dMO_amiss_104 : decode b_MO_amiss 104 = .ok (.lcmp, 1) ∧ 104 + 1 = 105 := ⟨by decide +kernel, rfl⟩
theorem dMO_amiss_105 : decode b_MO_amiss 105 = .ok (.ifCond .lt (12), 3) ∧ 105 + 3 = 108 ∧ ((105 : Nat) : Int) + (12) = ((117 : Nat) : Int) := ⟨by decide +kernel, rfl, by decide⟩
theorem dMO_amiss_108 : decode b_MO_amiss 108 = .ok (.lload 6, 2) ∧ 108 + 2 = 110 := ⟨by decide +kernel, rfl⟩
theorem dMO_amiss_110 : decode b_MO_amiss 110 = .ok (.ldc2_w 294, 3) ∧ 110 + 3 = 113 := ⟨by decide +kernel, rfl⟩
theorem dMO_amiss_113 : decode b_MO_amiss 113 = .ok (.lcmp, 1) ∧ 113 + 1 = 114 := ⟨by decide +kernel, rfl⟩
theorem dMO_amiss_114 : decode b_MO_amiss 114 = .ok (.ifCond .le (8), 3) ∧ 114 + 3 = 117 ∧ ((114 : Nat) : Int) + (8) = ((122 : Nat) : Int) := ⟨by decide +kernel, rfl, by decide⟩
theorem dMO_amiss_117 : decode b_MO_amiss 117 = .ok (.bipush (8), 2) ∧ 117 + 2 = 119 := ⟨by decide +kernel, rfl⟩
theorem dMO_amiss_119 : decode b_MO_amiss 119 = .ok (.goto (18), 3) ∧ 119 + 3 = 122 ∧ ((119 : Nat) : Int) + (18) = ((137 : Nat) : Int) := ⟨by decide +kernel, rfl, by decide⟩
theorem dMO_amiss_122 : decode b_MO_amiss 122 = .ok (.aload_n 0, 1) ∧ 122 + 1 = 123 := ⟨by decide +kernel, rfl⟩
theorem dMO_amiss_123 : decode b_MO_amiss 123 = .ok (.iload_n 1, 1) ∧ 123 + 1 = 124 := ⟨by decide +kernel, rfl⟩
theorem dMO_amiss_124 : decode b_MO_amiss 124 = .ok (.invokevirtual 320, 3) ∧ 124 + 3 = 127 := ⟨by decide +kernel, rfl⟩
theorem dMO_amiss_127 : decode b_MO_amiss 127 = .ok (.iconst 1, 1) ∧ 127 + 1 = 128 := ⟨by decide +kernel, rfl⟩
theorem dMO_amiss_128 : decode b_MO_amiss 128 = .ok (.if_icmp .eq (8), 3) ∧ 128 + 3 = 131 ∧ ((128 : Nat) : Int) + (8) = ((136 : Nat) : Int) := ⟨by decide +kernel, rfl, by decide⟩
theorem dMO_amiss_131 : decode b_MO_amiss 131 = .ok (.bipush (12), 2) ∧ 131 + 2 = 133 := ⟨by decide +kernel, rfl⟩
theorem dMO_amiss_133 : decode b_MO_amiss 133 = .ok (.goto (4), 3) ∧ 133 + 3 = 136 ∧ ((133 : Nat) : Int) + (4) = ((137 : Nat) : Int) := ⟨by decide +kernel, rfl, by decide⟩
theorem dMO_amiss_136 : decode b_MO_amiss 136 = .ok (.iconst 0, 1) ∧ 136 + 1 = 137 := ⟨by decide +kernel, rfl⟩
theorem dMO_amiss_137 : decode b_MO_amiss 137 = .ok (.ireturn, 1) ∧ 137 + 1 = 138 := ⟨by decide +kernel, rfl⟩
theorem dMO_amiss_138 : decode b_MO_amiss 138 = .ok (.iload_n 3, 1) ∧ 138 + 1 = 139 := ⟨by decide +kernel, rfl⟩
theorem dMO_amiss_139 : decode b_MO_amiss 139 = .ok (.iconst 4, 1) ∧ 139 + 1 = 140 := ⟨by decide +kernel, rfl⟩
theorem dMO_amiss_140 : decode b_MO_amiss 140 = .ok (.if_icmp .ne (19), 3) ∧ 140 + 3 = 143 ∧ ((140 : Nat) : Int) + (19) = ((159 : Nat) : Int) := ⟨by decide +kernel, rfl, by decide⟩
theorem dMO_amiss_143 : decode b_MO_amiss 143 = .ok (.lload 6, 2) ∧ 143 + 2 = 145 := ⟨by decide +kernel, rfl⟩
theorem dMO_amiss_145 : decode b_MO_amiss 145 = .ok (.ldc2_w 323, 3) ∧ 145 + 3 = 148 := ⟨by decide +kernel, rfl⟩
theorem dMO_amiss_148 : decode b_MO_amiss 148 = .ok (.lcmp, 1) ∧ 148 + 1 = 149 := ⟨by decide +kernel, rfl⟩
theorem dMO_amiss_149 : decode b_MO_amiss 149 = .ok (.ifCond .le (8), 3) ∧ 149 + 3 = 152 ∧ ((149 : Nat) : Int) + (8) = ((157 : Nat) : Int) := ⟨by decide +kernel, rfl, by decide⟩
theorem dMO_amiss_152 : decode b_MO_amiss 152 = .ok (.bipush (8), 2) ∧ 152 + 2 = 154 := ⟨by decide +kernel, rfl⟩
theorem dMO_amiss_154 : decode b_MO_amiss 154 = .ok (.goto (4), 3) ∧ 154 + 3 = 157 ∧ ((154 : Nat) : Int) + (4) = ((158 : Nat) : Int) := ⟨by decide +kernel, rfl, by decide⟩
theorem dMO_amiss_157 : decode b_MO_amiss 157 = .ok (.iconst 0, 1) ∧ 157 + 1 = 158 := ⟨by decide +kernel, rfl⟩
theorem dMO_amiss_158 : decode b_MO_amiss 158 = .ok (.ireturn, 1) ∧ 158 + 1 = 159 := ⟨by decide +kernel, rfl⟩
theorem dMO_amiss_159 : decode b_MO_amiss 159 = .ok (.lload 4, 2) ∧ 159 + 2 = 161 := ⟨by decide +kernel, rfl⟩
theorem dMO_amiss_161 : decode b_MO_amiss 161 = .ok (.aload_n 0, 1) ∧ 161 + 1 = 162 := ⟨by decide +kernel, rfl⟩
theorem dMO_amiss_162 : decode b_MO_amiss 162 = .ok (.iload_n 3, 1) ∧ 162 + 1 = 163 := ⟨by decide +kernel, rfl⟩
theorem dMO_amiss_163 : decode b_MO_amiss 163 = .ok (.invokevirtual 302, 3) ∧ 163 + 3 = 166 := ⟨by decide +kernel, rfl⟩
theorem dMO_amiss_166 : decode b_MO_amiss 166 = .ok (.lcmp, 1) ∧ 166 + 1 = 167 := ⟨by decide +kernel, rfl⟩
theorem dMO_amiss_167 : decode b_MO_amiss 167 = .ok (.ifCond .le (7), 3) ∧ 167 + 3 = 170 ∧ ((167 : Nat) : Int) + (7) = ((174 : Nat) : Int) := ⟨by decide +kernel, rfl, by decide⟩
theorem dMO_amiss_170 : decode b_MO_amiss 170 = .ok (.iconst 4, 1) ∧ 170 + 1 = 171 := ⟨by decide +kernel, rfl⟩
theorem dMO_amiss_171 : decode b_MO_amiss 171 = .ok (.goto (23), 3) ∧ 171 + 3 = 174 ∧ ((171 : Nat) : Int) + (23) = ((194 : Nat) : Int) := ⟨by decide +kernel, rfl, by decide⟩
theorem dMO_amiss_174 : decode b_MO_amiss 174 = .ok (.lload 4, 2) ∧ 174 + 2 = 176 := ⟨by decide +kernel, rfl⟩
theorem dMO_amiss_176 : decode b_MO_amiss 176 = .ok (.lload 6, 2) ∧ 176 + 2 = 178 := ⟨by decide +kernel, rfl⟩
theorem dMO_amiss_178 : decode b_MO_amiss 178 = .ok (.ladd, 1) ∧ 178 + 1 = 179 := ⟨by decide +kernel, rfl⟩
theorem dMO_amiss_179 : decode b_MO_amiss 179 = .ok (.aload_n 0, 1) ∧ 179 + 1 = 180 := ⟨by decide +kernel, rfl⟩
theorem dMO_amiss_180 : decode b_MO_amiss 180 = .ok (.iload_n 3, 1) ∧ 180 + 1 = 181 := ⟨by decide +kernel, rfl⟩
theorem dMO_amiss_181 : decode b_MO_amiss 181 = .ok (.invokevirtual 302, 3) ∧ 181 + 3 = 184 := ⟨by decide +kernel, rfl⟩
theorem dMO_amiss_184 : decode b_MO_amiss 184 = .ok (.lcmp, 1) ∧ 184 + 1 = 185 := ⟨by decide +kernel, rfl⟩
theorem dMO_amiss_185 : decode b_MO_amiss 185 = .ok (.ifCond .le (8), 3) ∧ 185 + 3 = 188 ∧ ((185 : Nat) : Int) + (8) = ((193 : Nat) : Int) := ⟨by decide +kernel, rfl, by decide⟩
theorem dMO_amiss_188 : decode b_MO_amiss 188 = .ok (.bipush (8), 2) ∧ 188 + 2 = 190 := ⟨by decide +kernel, rfl⟩
theorem dMO_amiss_190 : decode b_MO_amiss 190 = .ok (.goto (4), 3) ∧ 190 + 3 = 193 ∧ ((190 : Nat) : Int) + (4) = ((194 : Nat) : Int) := ⟨by decide +kernel, rfl, by decide⟩
theorem dMO_amiss_193 : decode b_MO_amiss 193 = .ok (.iconst 0, 1) ∧ 193 + 1 = 194 := ⟨by decide +kernel, rfl⟩
theorem dMO_amiss_194 : decode b_MO_amiss 194 = .ok (.ireturn, 1) ∧ 194 + 1 = 195 := ⟨by decide +kernel, rfl⟩
theorem dMO_isSameIn_0 : decode b_MO_isSameIn 0 = .ok (.aload_n 0, 1) ∧ 0 + 1 = 1 := ⟨by decide +kernel, rfl⟩
theorem dMO_isSameIn_1 : decode b_MO_isSameIn 1 = .ok (.iload_n 1, 1) ∧ 1 + 1 = 2 := ⟨by decide +kernel, rfl⟩
theorem dMO_isSameIn_2 : decode b_MO_isSameIn 2 = .ok (.invokevirtual 314, 3) ∧ 2 + 3 = 5 := ⟨by decide +kernel, rfl⟩
theorem dMO_isSameIn_5 : decode b_MO_isSameIn 5 = .ok (.istore_n 3, 1) ∧ 5 + 1 = 6 := ⟨by decide +kernel, rfl⟩
theorem dMO_isSameIn_6 : decode b_MO_isSameIn 6 = .ok (.aload_n 0, 1) ∧ 6 + 1 = 7 := ⟨by decide +kernel, rfl⟩
theorem dMO_isSameIn_7 : decode b_MO_isSameIn 7 = .ok (.iload_n 2, 1) ∧ 7 + 1 = 8 := ⟨by decide +kernel, rfl⟩
theorem dMO_isSameIn_8 : decode b_MO_isSameIn 8 = .ok (.invokevirtual 314, 3) ∧ 8 + 3 = 11 := ⟨by decide +kernel, rfl⟩
theorem dMO_isSameIn_11 : decode b_MO_isSameIn 11 = .ok (.istore 4, 2) ∧ 11 + 2 = 13 := ⟨by decide +kernel, rfl⟩
theorem dMO_isSameIn_13 : decode b_MO_isSameIn 13 = .ok (.iconst 0, 1) ∧ 13 + 1 = 14 := ⟨by decide +kernel, rfl⟩
theorem dMO_isSameIn_14 : decode b_MO_isSameIn 14 = .ok (.istore 5, 2) ∧ 14 + 2 = 16 := ⟨by decide +kernel, rfl⟩
theorem dMO_isSameIn_16 : decode b_MO_isSameIn 16 = .ok (.aload_n 0, 1) ∧ 16 + 1 = 17 := ⟨by decide +kernel, rfl⟩
theorem dMO_isSameIn_17 : decode b_MO_isSameIn 17 = .ok (.getfield 70, 3) ∧ 17 + 3 = 20 := ⟨by decide +kernel, rfl⟩
theorem dMO_isSameIn_20 : decode b_MO_isSameIn 20 = .ok (.iload_n 3, 1) ∧ 20 + 1 = 21 := ⟨by decide +kernel, rfl⟩
theorem dMO_isSameIn_21 : decode b_MO_isSameIn 21 = .ok (.iload 5, 2) ∧ 21 + 2 = 23 := ⟨by decide +kernel, rfl⟩
theorem dMO_isSameIn_23 : decode b_MO_isSameIn 23 = .ok (.iadd, 1) ∧ 23 + 1 = 24 := ⟨by decide +kernel, rfl⟩
theorem dMO_isSameIn_24 : decode b_MO_isSameIn 24 = .ok (.iaload, 1) ∧ 24 + 1 = 25 := ⟨by decide +kernel, rfl⟩
theorem dMO_isSameIn_25 : decode b_MO_isSameIn 25 = .ok (.ifCond .eq (31), 3) ∧ 25 + 3 = 28 ∧ ((25 : Nat) : Int) + (31) = ((56 : Nat) : Int) := ⟨by decide +kernel, rfl, by decide⟩
theorem dMO_isSameIn_28 : decode b_MO_isSameIn 28 = .ok (.aload_n 0, 1) ∧ 28 + 1 = 29 := ⟨by decide +kernel, rfl⟩
theorem dMO_isSameIn_29 : decode b_MO_isSameIn 29 = .ok (.getfield 70, 3) ∧ 29 + 3 = 32 := ⟨by decide +kernel, rfl⟩
theorem dMO_isSameIn_32 : decode b_MO_isSameIn 32 = .ok (.iload_n 3, 1) ∧ 32 + 1 = 33 := ⟨by decide +kernel, rfl⟩
theorem dMO_isSameIn_33 : decode b_MO_isSameIn 33 = .ok (.iload 5, 2) ∧ 33 + 2 = 35 := ⟨by decide +kernel, rfl⟩
theorem dMO_isSameIn_35 : decode b_MO_isSameIn 35 = .ok (.iadd, 1) ∧ 35 + 1 = 36 := ⟨by decide +kernel, rfl⟩
theorem dMO_isSameIn_36 : decode b_MO_isSameIn 36 = .ok (.iaload, 1) ∧ 36 + 1 = 37 := ⟨by decide +kernel, rfl⟩
theorem dMO_isSameIn_37 : decode b_MO_isSameIn 37 = .ok (.aload_n 0, 1) ∧ 37 + 1 = 38 := ⟨by decide +kernel, rfl⟩
theorem dMO_isSameIn_38 : decode b_MO_isSameIn 38 = .ok (.getfield 70, 3) ∧ 38 + 3 = 41 := ⟨by decide +kernel, rfl⟩
theorem dMO_isSameIn_41 : decode b_MO_isSameIn 41 = .ok (.iload 4, 2) ∧ 41 + 2 = 43 := ⟨by decide +kernel, rfl⟩
theorem dMO_isSameIn_43 : decode b_MO_isSameIn 43 = .ok (.iload 5, 2) ∧ 43 + 2 = 45 := ⟨by decide +kernel, rfl⟩
theorem dMO_isSameIn_45 : decode b_MO_isSameIn 45 = .ok (.iadd, 1) ∧ 45 + 1 = 46 := ⟨by decide +kernel, rfl⟩
theorem dMO_isSameIn_46 : decode b_MO_isSameIn 46 = .ok (.iaload, 1) ∧ 46 + 1 = 47 := ⟨by decide +kernel, rfl⟩
theorem dMO_isSameIn_47 : decode b_MO_isSameIn 47 = .ok (.if_icmp .ne (9), 3) ∧ 47 + 3 = 50 ∧ ((47 : Nat) : Int) + (9) = ((56 : Nat) : Int) := ⟨by decide +kernel, rfl, by decide⟩
theorem dMO_isSameIn_50 : decode b_MO_isSameIn 50 = .ok (.iinc 5 (1), 3) ∧ 50 + 3 = 53 := ⟨by decide +kernel, rfl⟩
theorem dMO_isSameIn_53 : decode b_MO_isSameIn 53 = .ok (.goto (-37), 3) ∧ 53 + 3 = 56 ∧ ((53 : Nat) : Int) + (-37) = ((16 : Nat) : Int) := ⟨by decide +kernel, rfl, by decide⟩
theorem dMO_isSameIn_56 : decode b_MO_isSameIn 56 = .ok (.aload_n 0, 1) ∧ 56 + 1 = 57 := ⟨by decide +kernel, rfl⟩
theorem dMO_isSameIn_57 : decode b_MO_isSameIn 57 = .ok (.getfield 70, 3) ∧ 57 + 3 = 60 := ⟨by decide +kernel, rfl⟩
theorem dMO_isSameIn_60 : decode b_MO_isSameIn 60 = .ok (.iload_n 3, 1) ∧ 60 + 1 = 61 := ⟨by decide +kernel, rfl⟩
theorem dMO_isSameIn_61 : decode b_MO_isSameIn 61 = .ok (.iload 5, 2) ∧ 61 + 2 = 63 := ⟨by decide +kernel, rfl⟩
theorem dMO_isSameIn_63 : decode b_MO_isSameIn 63 = .ok (.iadd, 1) ∧ 63 + 1 = 64 := ⟨by decide +kernel, rfl⟩
theorem dMO_isSameIn_64 : decode b_MO_isSameIn 64 = .ok (.iaload, 1) ∧ 64 + 1 = 65 := ⟨by decide +kernel, rfl⟩
theorem dMO_isSameIn_65 : decode b_MO_isSameIn 65 = .ok (.aload_n 0, 1) ∧ 65 + 1 = 66 := ⟨by decide +kernel, rfl⟩
theorem dMO_isSameIn_66 : decode b_MO_isSameIn 66 = .ok (.getfield 70, 3) ∧ 66 + 3 = 69 := ⟨by decide +kernel, rfl⟩
theorem dMO_isSameIn_69 : decode b_MO_isSameIn 69 = .ok (.iload 4, 2) ∧ 69 + 2 = 71 := ⟨by decide +kernel, rfl⟩
theorem dMO_isSameIn_71 : decode b_MO_isSameIn 71 = .ok (.iload 5, 2) ∧ 71 + 2 = 73 := ⟨by decide +kernel, rfl⟩
theorem dMO_isSameIn_73 : decode b_MO_isSameIn 73 = .ok (.iadd, 1) ∧ 73 + 1 = 74 := ⟨by decide +kernel, rfl⟩
theorem dMO_isSameIn_74 : decode b_MO_isSameIn 74 = .ok (.iaload, 1) ∧ 74 + 1 = 75 := ⟨by decide +kernel, rfl⟩
theorem dMO_isSameIn_75 : decode b_MO_isSameIn 75 = .ok (.if_icmp .ne (7), 3) ∧ 75 + 3 = 78 ∧ ((75 : Nat) : Int) + (7) = ((82 : Nat) : Int) := ⟨by decide +kernel, rfl, by decide⟩
theorem dMO_isSameIn_78 : decode b_MO_isSameIn 78 = .ok (.iconst 1, 1) ∧ 78 + 1 = 79 := ⟨by decide +kernel, rfl⟩
theorem dMO_isSameIn_79 : decode b_MO_isSameIn 79 = .ok (.goto (4), 3) ∧ 79 + 3 = 82 ∧ ((79 : Nat) : Int) + (4) = ((83 : Nat) : Int) := ⟨by decide +kernel, rfl, by decide⟩
theorem dMO_isSameIn_82 : decode b_MO_isSameIn 82 = .ok (.iconst 0, 1) ∧ 82 + 1 = 83 := ⟨by decide +kernel, rfl⟩
theorem dMO_isSameIn_83 : decode b_MO_isSameIn 83 = .ok (.ireturn, 1) ∧ 83 + 1 = 84 := ⟨by decide +kernel, rfl⟩
theorem dMO_symbolFault_0 : decode b_MO_symbolFault 0 = .ok (.aload_n 0, 1) ∧ 0 + 1 = 1 := ⟨by decide +kernel, rfl⟩
theorem dMO_symbolFault_1 : decode b_MO_symbolFault 1 = .ok (.iload_n 1, 1) ∧ 1 + 1 = 2 := ⟨by decide +kernel, rfl⟩
theorem dMO_symbolFault_2 : decode b_MO_symbolFault 2 = .ok (.invokevirtual 311, 3) ∧ 2 + 3 = 5 := ⟨by decide +kernel, rfl⟩
theorem dMO_symbolFault_5 : decode b_MO_symbolFault 5 = .ok (.istore_n 2, 1) ∧ 5 + 1 = 6 := ⟨by decide +kernel, rfl⟩
theorem dMO_symbolFault_6 : decode b_MO_symbolFault 6 = .ok (.iconst 0, 1) ∧ 6 + 1 = 7 := ⟨by decide +kernel, rfl⟩
theorem dMO_symbolFault_7 : decode b_MO_symbolFault 7 = .ok (.istore_n 3, 1) ∧ 7 + 1 = 8 := ⟨by decide +kernel, rfl⟩
theorem dMO_symbolFault_8 : decode b_MO_symbolFault 8 = .ok (.iload_n 3, 1) ∧ 8 + 1 = 9 := ⟨by decide +kernel, rfl⟩
theorem dMO_symbolFault_9 : decode b_MO_symbolFault 9 = .ok (.bipush (16), 2) ∧ 9 + 2 = 11 := ⟨by decide +kernel, rfl⟩
theorem dMO_symbolFault_11 : decode b_MO_symbolFault 11 = .ok (.if_icmp .ge (34), 3) ∧ 11 + 3 = 14 ∧ ((11 : Nat) : Int) + (34) = ((45 : Nat) : Int) := ⟨by decide +kernel, rfl, by decide⟩
theorem dMO_symbolFault_14 : decode b_MO_symbolFault 14 = .ok (.iload_n 1, 1) ∧ 14 + 1 = 15 := ⟨by decide +kernel, rfl⟩
theorem dMO_symbolFault_15 : decode b_MO_symbolFault 15 = .ok (.ifCond .ne (30), 3) ∧ 15 + 3 = 18 ∧ ((15 : Nat) : Int) + (30) = ((45 : Nat) : Int) := ⟨by decide +kernel, rfl, by decide⟩
theorem dMO_symbolFault_18 : decode b_MO_symbolFault 18 = .ok (.aload_n 0, 1) ∧ 18 + 1 = 19 := ⟨by decide +kernel, rfl⟩
theorem dMO_symbolFault_19 : decode b_MO_symbolFault 19 = .ok (.getfield 70, 3) ∧ 19 + 3 = 22 := ⟨by decide +kernel, rfl⟩
theorem dMO_symbolFault_22 : decode b_MO_symbolFault 22 = .ok (.iload_n 2, 1) ∧ 22 + 1 = 23 := ⟨by decide +kernel, rfl⟩
theorem dMO_symbolFault_23 : decode b_MO_symbolFault 23 = .ok (.iload_n 3, 1) ∧ 23 + 1 = 24 := ⟨by decide +kernel, rfl⟩
theorem dMO_symbolFault_24 : decode b_MO_symbolFault 24 = .ok (.iadd, 1) ∧ 24 + 1 = 25 := ⟨by decide +kernel, rfl⟩
theorem dMO_symbolFault_25 : decode b_MO_symbolFault 25 = .ok (.iaload, 1) ∧ 25 + 1 = 26 := ⟨by decide +kernel, rfl⟩
theorem dMO_symbolFault_26 : decode b_MO_symbolFault 26 = .ok (.ifCond .eq (13), 3) ∧ 26 + 3 = 29 ∧ ((26 : Nat) : Int) + (13) = ((39 : Nat) : Int) := ⟨by decide +kernel, rfl, by decide⟩
theorem dMO_symbolFault_29 : decode b_MO_symbolFault 29 = .ok (.aload_n 0, 1) ∧ 29 + 1 = 30 := ⟨by decide +kernel, rfl⟩
theorem dMO_symbolFault_30 : decode b_MO_symbolFault 30 = .ok (.bipush (21), 2) ∧ 30 + 2 = 32 := ⟨by decide +kernel, rfl⟩
theorem dMO_symbolFault_32 : decode b_MO_symbolFault 32 = .ok (.iload_n 2, 1) ∧ 32 + 1 = 33 := ⟨by decide +kernel, rfl⟩
theorem dMO_symbolFault_33 : decode b_MO_symbolFault 33 = .ok (.iload_n 3, 1) ∧ 33 + 1 = 34 := ⟨by decide +kernel, rfl⟩
theorem dMO_symbolFault_34 : decode b_MO_symbolFault 34 = .ok (.iadd, 1) ∧ 34 + 1 = 35 := ⟨by decide +kernel, rfl⟩
theorem dMO_symbolFault_35 : decode b_MO_symbolFault 35 = .ok (.invokevirtual 264, 3) ∧ 35 + 3 = 38 := ⟨by decide +kernel, rfl⟩
theorem dMO_symbolFault_38 : decode b_MO_symbolFault 38 = .ok (.ireturn, 1) ∧ 38 + 1 = 39 := ⟨by decide +kernel, rfl⟩
theorem dMO_symbolFault_39 : decode b_MO_symbolFault 39 = .ok (.iinc 3 (1), 3) ∧ 39 + 3 = 42 := ⟨by decide +kernel, rfl⟩
theorem dMO_symbolFault_42 : decode b_MO_symbolFault 42 = .ok (.goto (-34), 3) ∧ 42 + 3 = 45 ∧ ((42 : Nat) : Int) + (-34) = ((8 : Nat) : Int) := ⟨by decide +kernel, rfl, by decide⟩
theorem dMO_symbolFault_45 : decode b_MO_symbolFault 45 = .ok (.iload_n 1, 1) ∧ 45 + 1 = 46 := ⟨by decide +kernel, rfl⟩
theorem dMO_symbolFault_46 : decode b_MO_symbolFault 46 = .ok (.ifCond .ne (5), 3) ∧ 46 + 3 = 49 ∧ ((46 : Nat) : Int) + (5) = ((51 : Nat) : Int) := ⟨by decide +kernel, rfl, by decide⟩
theorem dMO_symbolFault_49 : decode b_MO_symbolFault 49 = .ok (.iconst 0, 1) ∧ 49 + 1 = 50 := ⟨by decide +kernel, rfl⟩
theorem dMO_symbolFault_50 : decode b_MO_symbolFault 50 = .ok (.ireturn, 1) ∧ 50 + 1 = 51 := ⟨by decide +kernel, rfl⟩
theorem dMO_symbolFault_51 : decode b_MO_symbolFault 51 = .ok (.aload_n 0, 1) ∧ 51 + 1 = 52 := ⟨by decide +kernel, rfl⟩
theorem dMO_symbolFault_52 : decode b_MO_symbolFault 52 = .ok (.iload_n 2, 1) ∧ 52 + 1 = 53 := ⟨by decide +kernel, rfl⟩
theorem dMO_symbolFault_53 : decode b_MO_symbolFault 53 = .ok (.invokevirtual 260, 3) ∧ 53 + 3 = 56 := ⟨by decide +kernel, rfl⟩
theorem dMO_symbolFault_56 : decode b_MO_symbolFault 56 = .ok (.aload_n 0, 1) ∧ 56 + 1 = 57 := ⟨by decide +kernel, rfl⟩
theorem dMO_symbolFault_57 : decode b_MO_symbolFault 57 = .ok (.bipush (9), 2) ∧ 57 + 2 = 59 := ⟨by decide +kernel, rfl⟩
theorem dMO_symbolFault_59 : decode b_MO_symbolFault 59 = .ok (.invokevirtual 302, 3) ∧ 59 + 3 = 62 := ⟨by decide +kernel, rfl⟩
theorem dMO_symbolFault_62 : decode b_MO_symbolFault 62 = .ok (.lcmp, 1) ∧ 62 + 1 = 63 := ⟨by decide +kernel, rfl⟩
theorem dMO_symbolFault_63 : decode b_MO_symbolFault 63 = .ok (.ifCond .ge (15), 3) ∧ 63 + 3 = 66 ∧ ((63 : Nat) : Int) + (15) = ((78 : Nat) : Int) := ⟨by decide +kernel, rfl, by decide⟩
theorem dMO_symbolFault_66 : decode b_MO_symbolFault 66 = .ok (.aload_n 0, 1) ∧ 66 + 1 = 67 := ⟨by decide +kernel, rfl⟩
theorem dMO_symbolFault_67 : decode b_MO_symbolFault 67 = .ok (.aload_n 0, 1) ∧ 67 + 1 = 68 := ⟨by decide +kernel, rfl⟩
theorem dMO_symbolFault_68 : decode b_MO_symbolFault 68 = .ok (.iload_n 1, 1) ∧ 68 + 1 = 69 := ⟨by decide +kernel, rfl⟩
theorem dMO_symbolFault_69 : decode b_MO_symbolFault 69 = .ok (.invokevirtual 314, 3) ∧ 69 + 3 = 72 := ⟨by decide +kernel, rfl⟩
theorem dMO_symbolFault_72 : decode b_MO_symbolFault 72 = .ok (.invokevirtual 325, 3) ∧ 72 + 3 = 75 := ⟨by decide +kernel, rfl⟩
theorem dMO_symbolFault_75 : decode b_MO_symbolFault 75 = .ok (.ifCond .ne (11), 3) ∧ 75 + 3 = 78 ∧ ((75 : Nat) : Int) + (11) = ((86 : Nat) : Int) := ⟨by decide +kernel, rfl, by decide⟩
theorem dMO_symbolFault_78 : decode b_MO_symbolFault 78 = .ok (.aload_n 0, 1) ∧ 78 + 1 = 79 := ⟨by decide +kernel, rfl⟩
theorem dMO_symbolFault_79 : decode b_MO_symbolFault 79 = .ok (.bipush (22), 2) ∧ 79 + 2 = 81 := ⟨by decide +kernel, rfl⟩
theorem dMO_symbolFault_81 : decode b_MO_symbolFault 81 = .ok (.iload_n 2, 1) ∧ 81 + 1 = 82 := ⟨by decide +kernel, rfl⟩
theorem dMO_symbolFault_82 : decode b_MO_symbolFault 82 = .ok (.invokevirtual 264, 3) ∧ 82 + 3 = 85 := ⟨by decide +kernel, rfl⟩
theorem dMO_symbolFault_85 : decode b_MO_symbolFault 85 = .ok (.ireturn, 1) ∧ 85 + 1 = 86 := ⟨by decide +kernel, rfl⟩
theorem dMO_symbolFault_86 : decode b_MO_symbolFault 86 = .ok (.aload_n 0, 1) ∧ 86 + 1 = 87 := ⟨by decide +kernel, rfl⟩
theorem dMO_symbolFault_87 : decode b_MO_symbolFault 87 = .ok (.getfield 70, 3) ∧ 87 + 3 = 90 := ⟨by decide +kernel, rfl⟩
theorem dMO_symbolFault_90 : decode b_MO_symbolFault 90 = .ok (.iload_n 2, 1) ∧ 90 + 1 = 91 := ⟨by decide +kernel, rfl⟩
theorem dMO_symbolFault_91 : decode b_MO_symbolFault 91 = .ok (.bipush (12), 2) ∧ 91 + 2 = 93 := ⟨by decide +kernel, rfl⟩
theorem dMO_symbolFault_93 : decode b_MO_symbolFault 93 = .ok (.iadd, 1) ∧ 93 + 1 = 94 := ⟨by decide +kernel, rfl⟩
theorem dMO_symbolFault_94 : decode b_MO_symbolFault 94 = .ok (.iaload, 1) ∧ 94 + 1 = 95 := ⟨by decide +kernel, rfl⟩
theorem dMO_symbolFault_95 : decode b_MO_symbolFault 95 = .ok (.istore_n 3, 1) ∧ 95 + 1 = 96 := ⟨by decide +kernel, rfl⟩
theorem dMO_symbolFault_96 : decode b_MO_symbolFault 96 = .ok (.iload_n 3, 1) ∧ 96 + 1 = 97 := ⟨by decide +kernel, rfl⟩
theorem dMO_symbolFault_97 : decode b_MO_symbolFault 97 = .ok (.iconst 4, 1) ∧ 97 + 1 = 98 := ⟨by decide +kernel, rfl⟩
theorem dMO_symbolFault_98 : decode b_MO_symbolFault 98 = .ok (.ishr, 1) ∧ 98 + 1 = 99 := ⟨by decide +kernel, rfl⟩
theorem dMO_symbolFault_99 : decode b_MO_symbolFault 99 = .ok (.iconst 2, 1) ∧ 99 + 1 = 100 := ⟨by decide +kernel, rfl⟩
theorem dMO_symbolFault_100 : decode b_MO_symbolFault 100 = .ok (.if_icmp .gt (11), 3) ∧ 100 + 3 = 103 ∧ ((100 : Nat) : Int) + (11) = ((111 : Nat) : Int) := ⟨by decide +kernel, rfl, by decide⟩
theorem dMO_symbolFault_103 : decode b_MO_symbolFault 103 = .ok (.iload_n 3, 1) ∧ 103 + 1 = 104 := ⟨by decide +kernel, rfl⟩
theorem dMO_symbolFault_104 : decode b_MO_symbolFault 104 = .ok (.bipush (15), 2) ∧ 104 + 2 = 106 := ⟨by decide +kernel, rfl⟩
theorem dMO_symbolFault_106 : decode b_MO_symbolFault 106 = .ok (.iand, 1) ∧ 106 + 1 = 107 := ⟨by decide +kernel, rfl⟩
theorem dMO_symbolFault_107 : decode b_MO_symbolFault 107 = .ok (.iconst 2, 1) ∧ 107 + 1 = 108 := ⟨by decide +kernel, rfl⟩
theorem dMO_symbolFault_108 : decode b_MO_symbolFault 108 = .ok (.if_icmp .le (14), 3) ∧ 108 + 3 = 111 ∧ ((108 : Nat) : Int) + (14) = ((122 : Nat) : Int) := ⟨by decide +kernel, rfl, by decide⟩
theorem dMO_symbolFault_111 : decode b_MO_symbolFault 111 = .ok (.aload_n 0, 1) ∧ 111 + 1 = 112 := ⟨by decide +kernel, rfl⟩
theorem dMO_symbolFault_112 : decode b_MO_symbolFault 112 = .ok (.bipush (23), 2) ∧ 112 + 2 = 114 := ⟨by decide +kernel, rfl⟩
theorem dMO_symbolFault_114 : decode b_MO_symbolFault 114 = .ok (.iload_n 2, 1) ∧ 114 + 1 = 115 := ⟨by decide +kernel, rfl⟩
theorem dMO_symbolFault_115 : decode b_MO_symbolFault 115 = .ok (.bipush (12), 2) ∧ 115 + 2 = 117 := ⟨by decide +kernel, rfl⟩
theorem dMO_symbolFault_117 : decode b_MO_symbolFault 117 = .ok (.iadd, 1) ∧ 117 + 1 = 118 := ⟨by decide +kernel, rfl⟩
theorem dMO_symbolFault_118 : decode b_MO_symbolFault 118 = .ok (.invokevirtual 264, 3) ∧ 118 + 3 = 121 := ⟨by decide +kernel, rfl⟩
theorem dMO_symbolFault_121 : decode b_MO_symbolFault 121 = .ok (.ireturn, 1) ∧ 121 + 1 = 122 := ⟨by decide +kernel, rfl⟩
theorem dMO_symbolFault_122 : decode b_MO_symbolFault 122 = .ok (.aload_n 0, 1) ∧ 122 + 1 = 123 := ⟨by decide +kernel, rfl⟩
theorem dMO_symbolFault_123 : decode b_MO_symbolFault 123 = .ok (.getfield 70, 3) ∧ 123 + 3 = 126 := ⟨by decide +kernel, rfl⟩
theorem dMO_symbolFault_126 : decode b_MO_symbolFault 126 = .ok (.iload_n 2, 1) ∧ 126 + 1 = 127 := ⟨by decide +kernel, rfl⟩
theorem dMO_symbolFault_127 : decode b_MO_symbolFault 127 = .ok (.bipush (13), 2) ∧ 127 + 2 = 129 := ⟨by decide +kernel, rfl⟩
theorem dMO_symbolFault_129 : decode b_MO_symbolFault 129 = .ok (.iadd, 1) ∧ 129 + 1 = 130 := ⟨by decide +kernel, rfl⟩
theorem dMO_symbolFault_130 : decode b_MO_symbolFault 130 = .ok (.iaload, 1) ∧ 130 + 1 = 131 := ⟨by decide +kernel, rfl⟩
theorem dMO_symbolFault_131 : decode b_MO_symbolFault 131 = .ok (.ifCond .eq (14), 3) ∧ 131 + 3 = 134 ∧ ((131 : Nat) : Int) + (14) = ((145 : Nat) : Int) := ⟨by decide +kernel, rfl, by decide⟩
theorem dMO_symbolFault_134 : decode b_MO_symbolFault 134 = .ok (.aload_n 0, 1) ∧ 134 + 1 = 135 := ⟨by decide +kernel, rfl⟩
theorem dMO_symbolFault_135 : decode b_MO_symbolFault 135 = .ok (.bipush (23), 2) ∧ 135 + 2 = 137 := ⟨by decide +kernel, rfl⟩
theorem dMO_symbolFault_137 : decode b_MO_symbolFault 137 = .ok (.iload_n 2, 1) ∧ 137 + 1 = 138 := ⟨by decide +kernel, rfl⟩
theorem dMO_symbolFault_138 : decode b_MO_symbolFault 138 = .ok (.bipush (13), 2) ∧ 138 + 2 = 140 := ⟨by decide +kernel, rfl⟩
theorem dMO_symbolFault_140 : decode b_MO_symbolFault 140 = .ok (.iadd, 1) ∧ 140 + 1 = 141 := ⟨by decide +kernel, rfl⟩
theorem dMO_symbolFault_141 : decode b_MO_symbolFault 141 = .ok (.invokevirtual 264, 3) ∧ 141 + 3 = 144 := ⟨by decide +kernel, rfl⟩
theorem dMO_symbolFault_144 : decode b_MO_symbolFault 144 = .ok (.ireturn, 1) ∧ 144 + 1 = 145 := ⟨by decide +kernel, rfl⟩
theorem dMO_symbolFault_145 : decode b_MO_symbolFault 145 = .ok (.iload_n 3, 1) ∧ 145 + 1 = 146 := ⟨by decide +kernel, rfl⟩
theorem dMO_symbolFault_146 : decode b_MO_symbolFault 146 = .ok (.iconst 4, 1) ∧ 146 + 1 = 147 := ⟨by decide +kernel, rfl⟩
theorem dMO_symbolFault_147 : decode b_MO_symbolFault 147 = .ok (.ishr, 1) ∧ 147 + 1 = 148 := ⟨by decide +kernel, rfl⟩
theorem dMO_symbolFault_148 : decode b_MO_symbolFault 148 = .ok (.ifCond .ne (29), 3) ∧ 148 + 3 = 151 ∧ ((148 : Nat) : Int) + (29) = ((177 : Nat) : Int) := ⟨by decide +kernel, rfl, by decide⟩
theorem dMO_symbolFault_151 : decode b_MO_symbolFault 151 = .ok (.iload_n 1, 1) ∧ 151 + 1 = 152 := ⟨by decide +kernel, rfl⟩
theorem dMO_symbolFault_152 : decode b_MO_symbolFault 152 = .ok (.iconst 1, 1) ∧ 152 + 1 = 153 := ⟨by decide +kernel, rfl⟩
theorem dMO_symbolFault_153 : decode b_MO_symbolFault 153 = .ok (.if_icmp .le (24), 3) ∧ 153 + 3 = 156 ∧ ((153 : Nat) : Int) + (24) = ((177 : Nat) : Int) := ⟨by decide +kernel, rfl, by decide⟩
theorem dMO_symbolFault_156 : decode b_MO_symbolFault 156 = .ok (.aload_n 0, 1) ∧ 156 + 1 = 157 := ⟨by decide +kernel, rfl⟩
theorem dMO_symbolFault_157 : decode b_MO_symbolFault 157 = .ok (.iload_n 1, 1) ∧ 157 + 1 = 158 := ⟨by decide +kernel, rfl⟩
theorem dMO_symbolFault_158 : decode b_MO_symbolFault 158 = .ok (.iconst 1, 1) ∧ 158 + 1 = 159 := ⟨by decide +kernel, rfl⟩
theorem dMO_symbolFault_159 : decode b_MO_symbolFault 159 = .ok (.isub, 1) ∧ 159 + 1 = 160 := ⟨by decide +kernel, rfl⟩
theorem dMO_symbolFault_160 : decode b_MO_symbolFault 160 = .ok (.invokevirtual 320, 3) ∧ 160 + 3 = 163 := ⟨by decide +kernel, rfl⟩
theorem dMO_symbolFault_163 : decode b_MO_symbolFault 163 = .ok (.ifCond .eq (14), 3) ∧ 163 + 3 = 166 ∧ ((163 : Nat) : Int) + (14) = ((177 : Nat) : Int) := ⟨by decide +kernel, rfl, by decide⟩
theorem dMO_symbolFault_166 : decode b_MO_symbolFault 166 = .ok (.aload_n 0, 1) ∧ 166 + 1 = 167 := ⟨by decide +kernel, rfl⟩
theorem dMO_symbolFault_167 : decode b_MO_symbolFault 167 = .ok (.bipush (24), 2) ∧ 167 + 2 = 169 := ⟨by decide +kernel, rfl⟩
theorem dMO_symbolFault_169 : decode b_MO_symbolFault 169 = .ok (.iload_n 2, 1) ∧ 169 + 1 = 170 := ⟨by decide +kernel, rfl⟩
theorem dMO_symbolFault_170 : decode b_MO_symbolFault 170 = .ok (.bipush (12), 2) ∧ 170 + 2 = 172 := ⟨by decide +kernel, rfl⟩
theorem dMO_symbolFault_172 : decode b_MO_symbolFault 172 = .ok (.iadd, 1) ∧ 172 + 1 = 173 := ⟨by decide +kernel, rfl⟩
theorem dMO_symbolFault_173 : decode b_MO_symbolFault 173 = .ok (.invokevirtual 264, 3) ∧ 173 + 3 = 176 := ⟨by decide +kernel, rfl⟩
theorem dMO_symbolFault_176 : decode b_MO_symbolFault 176 = .ok (.ireturn, 1) ∧ 176 + 1 = 177 := ⟨by decide +kernel, rfl⟩
theorem dMO_symbolFault_177 : decode b_MO_symbolFault 177 = .ok (.aload_n 0, 1) ∧ 177 + 1 = 178 := ⟨by decide +kernel, rfl⟩
theorem dMO_symbolFault_178 : decode b_MO_symbolFault 178 = .ok (.iload_n 1, 1) ∧ 178 + 1 = 179 := ⟨by decide +kernel, rfl⟩
theorem dMO_symbolFault_179 : decode b_MO_symbolFault 179 = .ok (.invokevirtual 317, 3) ∧ 179 + 3 = 182 := ⟨by decide +kernel, rfl⟩
theorem dMO_symbolFault_182 : decode b_MO_symbolFault 182 = .ok (.bipush (-2), 2) ∧ 182 + 2 = 184 := ⟨by decide +kernel, rfl⟩
theorem dMO_symbolFault_184 : decode b_MO_symbolFault 184 = .ok (.if_icmp .ne (14), 3) ∧ 184 + 3 = 187 ∧ ((184 : Nat) : Int) + (14) = ((198 : Nat) : Int) := ⟨by decide +kernel, rfl, by decide⟩
theorem dMO_symbolFault_187 : decode b_MO_symbolFault 187 = .ok (.aload_n 0, 1) ∧ 187 + 1 = 188 := ⟨by decide +kernel, rfl⟩
theorem dMO_symbolFault_188 : decode b_MO_symbolFault 188 = .ok (.bipush (25), 2) ∧ 188 + 2 = 190 := ⟨by decide +kernel, rfl⟩
theorem dMO_symbolFault_190 : decode b_MO_symbolFault 190 = .ok (.iload_n 2, 1) ∧ 190 + 1 = 191 := ⟨by decide +kernel, rfl⟩
theorem dMO_symbolFault_191 : decode b_MO_symbolFault 191 = .ok (.bipush (14), 2) ∧ 191 + 2 = 193 := ⟨by decide +kernel, rfl⟩
theorem dMO_symbolFault_193 : decode b_MO_symbolFault 193 = .ok (.iadd, 1) ∧ 193 + 1 = 194 := ⟨by decide +kernel, rfl⟩
theorem dMO_symbolFault_194 : decode b_MO_symbolFault 194 = .ok (.invokevirtual 264, 3) ∧ 194 + 3 = 197 := ⟨by decide +kernel, rfl⟩
theorem dMO_symbolFault_197 : decode b_MO_symbolFault 197 = .ok (.ireturn, 1) ∧ 197 + 1 = 198 := ⟨by decide +kernel, rfl⟩
theorem dMO_symbolFault_198 : decode b_MO_symbolFault 198 = .ok (.aload_n 0, 1) ∧ 198 + 1 = 199 := ⟨by decide +kernel, rfl⟩
theorem dMO_symbolFault_199 : decode b_MO_symbolFault 199 = .ok (.iload_n 1, 1) ∧ 199 + 1 = 200 := ⟨by decide +kernel, rfl⟩
theorem dMO_symbolFault_200 : decode b_MO_symbolFault 200 = .ok (.invokevirtual 328, 3) ∧ 200 + 3 = 203 := ⟨by decide +kernel, rfl⟩
theorem dMO_symbolFault_203 : decode b_MO_symbolFault 203 = .ok (.istore 4, 2) ∧ 203 + 2 = 205 := ⟨by decide +kernel, rfl⟩
theorem dMO_symbolFault_205 : decode b_MO_symbolFault 205 = .ok (.iload 4, 2) ∧ 205 + 2 = 207 := ⟨by decide +kernel, rfl⟩
theorem dMO_symbolFault_207 : decode b_MO_symbolFault 207 = .ok (.ifCond .le (14), 3) ∧ 207 + 3 = 210 ∧ ((207 : Nat) : Int) + (14) = ((221 : Nat) : Int) := ⟨by decide +kernel, rfl, by decide⟩
theorem dMO_symbolFault_210 : decode b_MO_symbolFault 210 = .ok (.aload_n 0, 1) ∧ 210 + 1 = 211 := ⟨by decide +kernel, rfl⟩
theorem dMO_symbolFault_211 : decode b_MO_symbolFault 211 = .ok (.bipush (26), 2) ∧ 211 + 2 = 213 := ⟨by decide +kernel, rfl⟩
theorem dMO_symbolFault_213 : decode b_MO_symbolFault 213 = .ok (.iload_n 2, 1) ∧ 213 + 1 = 214 := ⟨by decide +kernel, rfl⟩
theorem dMO_symbolFault_214 : decode b_MO_symbolFault 214 = .ok (.iload 4, 2) ∧ 214 + 2 = 216 := ⟨by decide +kernel, rfl⟩
theorem dMO_symbolFault_216 : decode b_MO_symbolFault 216 = .ok (.iadd, 1) ∧ 216 + 1 = 217 := ⟨by decide +kernel, rfl⟩
theorem dMO_symbolFault_217 : decode b_MO_symbolFault 217 = .ok (.invokevirtual 264, 3) ∧ 217 + 3 = 220 := ⟨by decide +kernel, rfl⟩
theorem dMO_symbolFault_220 : decode b_MO_symbolFault 220 = .ok (.ireturn, 1) ∧ 220 + 1 = 221 := ⟨by decide +kernel, rfl⟩
theorem dMO_symbolFault_221 : decode b_MO_symbolFault 221 = .ok (.iconst 1, 1) ∧ 221 + 1 = 222 := ⟨by decide +kernel, rfl⟩
theorem dMO_symbolFault_222 : decode b_MO_symbolFault 222 = .ok (.istore 5, 2) ∧ 222 + 2 = 224 := ⟨by decide +kernel, rfl⟩
theorem dMO_symbolFault_224 : decode b_MO_symbolFault 224 = .ok (.iload 5, 2) ∧ 224 + 2 = 226 := ⟨by decide +kernel, rfl⟩
theorem dMO_symbolFault_226 : decode b_MO_symbolFault 226 = .ok (.iload_n 1, 1) ∧ 226 + 1 = 227 := ⟨by decide +kernel, rfl⟩
theorem dMO_symbolFault_227 : decode b_MO_symbolFault 227 = .ok (.if_icmp .ge (42), 3) ∧ 227 + 3 = 230 ∧ ((227 : Nat) : Int) + (42) = ((269 : Nat) : Int) := ⟨by decide +kernel, rfl, by decide⟩
theorem dMO_symbolFault_230 : decode b_MO_symbolFault 230 = .ok (.iload_n 3, 1) ∧ 230 + 1 = 231 := ⟨by decide +kernel, rfl⟩
theorem dMO_symbolFault_231 : decode b_MO_symbolFault 231 = .ok (.iconst 4, 1) ∧ 231 + 1 = 232 := ⟨by decide +kernel, rfl⟩
theorem dMO_symbolFault_232 : decode b_MO_symbolFault 232 = .ok (.ishr, 1) ∧ 232 + 1 = 233 := ⟨by decide +kernel, rfl⟩
theorem dMO_symbolFault_233 : decode b_MO_symbolFault 233 = .ok (.ifCond .eq (36), 3) ∧ 233 + 3 = 236 ∧ ((233 : Nat) : Int) + (36) = ((269 : Nat) : Int) := ⟨by decide +kernel, rfl, by decide⟩
theorem dMO_symbolFault_236 : decode b_MO_symbolFault 236 = .ok (.aload_n 0, 1) ∧ 236 + 1 = 237 := ⟨by decide +kernel, rfl⟩
theorem dMO_symbolFault_237 : decode b_MO_symbolFault 237 = .ok (.iload 5, 2) ∧ 237 + 2 = 239 := ⟨by decide +kernel, rfl⟩
theorem dMO_symbolFault_239 : decode b_MO_symbolFault 239 = .ok (.invokevirtual 320, 3) ∧ 239 + 3 = 242 := ⟨by decide +kernel, rfl⟩
theorem dMO_symbolFault_242 : decode b_MO_symbolFault 242 = .ok (.ifCond .eq (21), 3) ∧ 242 + 3 = 245 ∧ ((242 : Nat) : Int) + (21) = ((263 : Nat) : Int) := ⟨by decide +kernel, rfl, by decide⟩
theorem dMO_symbolFault_245 : decode b_MO_symbolFault 245 = .ok (.aload_n 0, 1) ∧ 245 + 1 = 246 := ⟨by decide +kernel, rfl⟩
theorem dMO_symbolFault_246 : decode b_MO_symbolFault 246 = .ok (.iload_n 1, 1) ∧ 246 + 1 = 247 := ⟨by decide +kernel, rfl⟩
theorem dMO_symbolFault_247 : decode b_MO_symbolFault 247 = .ok (.iload 5, 2) ∧ 247 + 2 = 249 := ⟨by decide +kernel, rfl⟩
theorem dMO_symbolFault_249 : decode b_MO_symbolFault 249 = .ok (.invokevirtual 331, 3) ∧ 249 + 3 = 252 := ⟨by decide +kernel, rfl⟩
theorem dMO_symbolFault_252 : decode b_MO_symbolFault 252 = .ok (.ifCond .eq (11), 3) ∧ 252 + 3 = 255 ∧ ((252 : Nat) : Int) + (11) = ((263 : Nat) : Int) := ⟨by decide +kernel, rfl, by decide⟩
theorem dMO_symbolFault_255 : decode b_MO_symbolFault 255 = .ok (.aload_n 0, 1) ∧ 255 + 1 = 256 := ⟨by decide +kernel, rfl⟩
theorem dMO_symbolFault_256 : decode b_MO_symbolFault 256 = .ok (.bipush (27), 2) ∧ 256 + 2 = 258 := ⟨by decide +kernel, rfl⟩
theorem dMO_symbolFault_258 : decode b_MO_symbolFault 258 = .ok (.iload_n 2, 1) ∧ 258 + 1 = 259 := ⟨by decide +kernel, rfl⟩
theorem dMO_symbolFault_259 : decode b_MO_symbolFault 259 = .ok (.invokevirtual 264, 3) ∧ 259 + 3 = 262 := ⟨by decide +kernel, rfl⟩
theorem dMO_symbolFault_262 : decode b_MO_symbolFault 262 = .ok (.ireturn, 1) ∧ 262 + 1 = 263 := ⟨by decide +kernel, rfl⟩
theorem dMO_symbolFault_263 : decode b_MO_symbolFault 263 = .ok (.iinc 5 (1), 3) ∧ 263 + 3 = 266 := ⟨by decide +kernel, rfl⟩
theorem dMO_symbolFault_266 : decode b_MO_symbolFault 266 = .ok (.goto (-42), 3) ∧ 266 + 3 = 269 ∧ ((266 : Nat) : Int) + (-42) = ((224 : Nat) : Int) := ⟨by decide +kernel, rfl, by decide⟩
theorem dMO_symbolFault_269 : decode b_MO_symbolFault 269 = .ok (.iconst 0, 1) ∧ 269 + 1 = 270 := ⟨by decide +kernel, rfl⟩
theorem dMO_symbolFault_270 : decode b_MO_symbolFault 270 = .ok (.ireturn, 1) ∧ 270 + 1 = 271 := ⟨by decide +kernel, rfl⟩
theorem dMO_ruleFault_0 : decode b_MO_ruleFault 0 = .ok (.aload_n 0, 1) ∧ 0 + 1 = 1 := ⟨by decide +kernel, rfl⟩
theorem dMO_ruleFault_1 : decode b_MO_ruleFault 1 = .ok (.getfield 110, 3) ∧ 1 + 3 = 4 := ⟨by decide +kernel, rfl⟩
theorem dMO_ruleFault_4 : decode b_MO_ruleFault 4 = .ok (.iload_n 1, 1) ∧ 4 + 1 = 5 := ⟨by decide +kernel, rfl⟩
theorem dMO_ruleFault_5 : decode b_MO_ruleFault 5 = .ok (.iaload, 1) ∧ 5 + 1 = 6 := ⟨by decide +kernel, rfl⟩
theorem dMO_ruleFault_6 : decode b_MO_ruleFault 6 = .ok (.istore_n 2, 1) ∧ 6 + 1 = 7 := ⟨by decide +kernel, rfl⟩
theorem dMO_ruleFault_7 : decode b_MO_ruleFault 7 = .ok (.iload_n 2, 1) ∧ 7 + 1 = 8 := ⟨by decide +kernel, rfl⟩
theorem dMO_ruleFault_8 : decode b_MO_ruleFault 8 = .ok (.iconst 5, 1) ∧ 8 + 1 = 9 := ⟨by decide +kernel, rfl⟩
theorem dMO_ruleFault_9 : decode b_MO_ruleFault 9 = .ok (.if_icmp .lt (13), 3) ∧ 9 + 3 = 12 ∧ ((9 : Nat) : Int) + (13) = ((22 : Nat) : Int) := ⟨by decide +kernel, rfl, by decide⟩
theorem dMO_ruleFault_12 : decode b_MO_ruleFault 12 = .ok (.iload_n 2, 1) ∧ 12 + 1 = 13 := ⟨by decide +kernel, rfl⟩
theorem dMO_ruleFault_13 : decode b_MO_ruleFault 13 = .ok (.bipush (8), 2) ∧ 13 + 2 = 15 := ⟨by decide +kernel, rfl⟩
theorem dMO_ruleFault_15 : decode b_MO_ruleFault 15 = .ok (.if_icmp .ge (7), 3) ∧ 15 + 3 = 18 ∧ ((15 : Nat) : Int) + (7) = ((22 : Nat) : Int) := ⟨by decide +kernel, rfl, by decide⟩
theorem dMO_ruleFault_18 : decode b_MO_ruleFault 18 = .ok (.iconst 1, 1) ∧ 18 + 1 = 19 := ⟨by decide +kernel, rfl⟩
theorem dMO_ruleFault_19 : decode b_MO_ruleFault 19 = .ok (.goto (4), 3) ∧ 19 + 3 = 22 ∧ ((19 : Nat) : Int) + (4) = ((23 : Nat) : Int) := ⟨by decide +kernel, rfl, by decide⟩
theorem dMO_ruleFault_22 : decode b_MO_ruleFault 22 = .ok (.iconst 0, 1) ∧ 22 + 1 = 23 := ⟨by decide +kernel, rfl⟩
theorem dMO_ruleFault_23 : decode b_MO_ruleFault 23 = .ok (.istore_n 3, 1) ∧ 23 + 1 = 24 := ⟨by decide +kernel, rfl⟩
theorem dMO_ruleFault_24 : decode b_MO_ruleFault 24 = .ok (.aload_n 0, 1) ∧ 24 + 1 = 25 := ⟨by decide +kernel, rfl⟩
theorem dMO_ruleFault_25 : decode b_MO_ruleFault 25 = .ok (.iload_n 1, 1) ∧ 25 + 1 = 26 := ⟨by decide +kernel, rfl⟩
theorem dMO_ruleFault_26 : decode b_MO_ruleFault 26 = .ok (.iconst 1, 1) ∧ 26 + 1 = 27 := ⟨by decide +kernel, rfl⟩
theorem dMO_ruleFault_27 : decode b_MO_ruleFault 27 = .ok (.invokevirtual 273, 3) ∧ 27 + 3 = 30 := ⟨by decide +kernel, rfl⟩
theorem dMO_ruleFault_30 : decode b_MO_ruleFault 30 = .ok (.iload_n 2, 1) ∧ 30 + 1 = 31 := ⟨by decide +kernel, rfl⟩
theorem dMO_ruleFault_31 : decode b_MO_ruleFault 31 = .ok (.invokestatic 216, 3) ∧ 31 + 3 = 34 := ⟨by decide +kernel, rfl⟩
theorem dMO_ruleFault_34 : decode b_MO_ruleFault 34 = .ok (.i2l, 1) ∧ 34 + 1 = 35 := ⟨by decide +kernel, rfl⟩
theorem dMO_ruleFault_35 : decode b_MO_ruleFault 35 = .ok (.lcmp, 1) ∧ 35 + 1 = 36 := ⟨by decide +kernel, rfl⟩
theorem dMO_ruleFault_36 : decode b_MO_ruleFault 36 = .ok (.ifCond .eq (16), 3) ∧ 36 + 3 = 39 ∧ ((36 : Nat) : Int) + (16) = ((52 : Nat) : Int) := ⟨by decide +kernel, rfl, by decide⟩
theorem dMO_ruleFault_39 : decode b_MO_ruleFault 39 = .ok (.aload_n 0, 1) ∧ 39 + 1 = 40 := ⟨by decide +kernel, rfl⟩
theorem dMO_ruleFault_40 : decode b_MO_ruleFault 40 = .ok (.bipush (17), 2) ∧ 40 + 2 = 42 := ⟨by decide +kernel, rfl⟩
theorem dMO_ruleFault_42 : decode b_MO_ruleFault 42 = .ok (.aload_n 0, 1) ∧ 42 + 1 = 43 := ⟨by decide +kernel, rfl⟩
theorem dMO_ruleFault_43 : decode b_MO_ruleFault 43 = .ok (.iload_n 1, 1) ∧ 43 + 1 = 44 := ⟨by decide +kernel, rfl⟩
theorem dMO_ruleFault_44 : decode b_MO_ruleFault 44 = .ok (.iconst 1, 1) ∧ 44 + 1 = 45 := ⟨by decide +kernel, rfl⟩
theorem dMO_ruleFault_45 : decode b_MO_ruleFault 45 = .ok (.invokevirtual 257, 3) ∧ 45 + 3 = 48 := ⟨by decide +kernel, rfl⟩
theorem dMO_ruleFault_48 : decode b_MO_ruleFault 48 = .ok (.invokevirtual 264, 3) ∧ 48 + 3 = 51 := ⟨by decide +kernel, rfl⟩
theorem dMO_ruleFault_51 : decode b_MO_ruleFault 51 = .ok (.ireturn, 1) ∧ 51 + 1 = 52 := ⟨by decide +kernel, rfl⟩
theorem dMO_ruleFault_52 : decode b_MO_ruleFault 52 = .ok (.aload_n 0, 1) ∧ 52 + 1 = 53 := ⟨by decide +kernel, rfl⟩
theorem dMO_ruleFault_53 : decode b_MO_ruleFault 53 = .ok (.iload_n 1, 1) ∧ 53 + 1 = 54 := ⟨by decide +kernel, rfl⟩
theorem dMO_ruleFault_54 : decode b_MO_ruleFault 54 = .ok (.iconst 2, 1) ∧ 54 + 1 = 55 := ⟨by decide +kernel, rfl⟩
theorem dMO_ruleFault_55 : decode b_MO_ruleFault 55 = .ok (.invokevirtual 273, 3) ∧ 55 + 3 = 58 := ⟨by decide +kernel, rfl⟩
theorem dMO_ruleFault_58 : decode b_MO_ruleFault 58 = .ok (.iload_n 2, 1) ∧ 58 + 1 = 59 := ⟨by decide +kernel, rfl⟩
theorem dMO_ruleFault_59 : decode b_MO_ruleFault 59 = .ok (.invokestatic 219, 3) ∧ 59 + 3 = 62 := ⟨by decide +kernel, rfl⟩
theorem dMO_ruleFault_62 : decode b_MO_ruleFault 62 = .ok (.i2l, 1) ∧ 62 + 1 = 63 := ⟨by decide +kernel, rfl⟩
theorem dMO_ruleFault_63 : decode b_MO_ruleFault 63 = .ok (.lcmp, 1) ∧ 63 + 1 = 64 := ⟨by decide +kernel, rfl⟩
theorem dMO_ruleFault_64 : decode b_MO_ruleFault 64 = .ok (.ifCond .eq (16), 3) ∧ 64 + 3 = 67 ∧ ((64 : Nat) : Int) + (16) = ((80 : Nat) : Int) := ⟨by decide +kernel, rfl, by decide⟩
theorem dMO_ruleFault_67 : decode b_MO_ruleFault 67 = .ok (.aload_n 0, 1) ∧ 67 + 1 = 68 := ⟨by decide +kernel, rfl⟩
theorem dMO_ruleFault_68 : decode b_MO_ruleFault 68 = .ok (.bipush (17), 2) ∧ 68 + 2 = 70 := ⟨by decide +kernel, rfl⟩
theorem dMO_ruleFault_70 : decode b_MO_ruleFault 70 = .ok (.aload_n 0, 1) ∧ 70 + 1 = 71 := ⟨by decide +kernel, rfl⟩
theorem dMO_ruleFault_71 : decode b_MO_ruleFault 71 = .ok (.iload_n 1, 1) ∧ 71 + 1 = 72 := ⟨by decide +kernel, rfl⟩
theorem dMO_ruleFault_72 : decode b_MO_ruleFault 72 = .ok (.iconst 2, 1) ∧ 72 + 1 = 73 := ⟨by decide +kernel, rfl⟩
theorem dMO_ruleFault_73 : decode b_MO_ruleFault 73 = .ok (.invokevirtual 257, 3) ∧ 73 + 3 = 76 := ⟨by decide +kernel, rfl⟩
theorem dMO_ruleFault_76 : decode b_MO_ruleFault 76 = .ok (.invokevirtual 264, 3) ∧ 76 + 3 = 79 := ⟨by decide +kernel, rfl⟩
theorem dMO_ruleFault_79 : decode b_MO_ruleFault 79 = .ok (.ireturn, 1) ∧ 79 + 1 = 80 := ⟨by decide +kernel, rfl⟩
theorem dMO_ruleFault_80 : decode b_MO_ruleFault 80 = .ok (.aload_n 0, 1) ∧ 80 + 1 = 81 := ⟨by decide +kernel, rfl⟩
theorem dMO_ruleFault_81 : decode b_MO_ruleFault 81 = .ok (.iload_n 1, 1) ∧ 81 + 1 = 82 := ⟨by decide +kernel, rfl⟩
theorem dMO_ruleFault_82 : decode b_MO_ruleFault 82 = .ok (.iconst 3, 1) ∧ 82 + 1 = 83 := ⟨by decide +kernel, rfl⟩
theorem dMO_ruleFault_83 : decode b_MO_ruleFault 83 = .ok (.invokevirtual 273, 3) ∧ 83 + 3 = 86 := ⟨by decide +kernel, rfl⟩
theorem dMO_ruleFault_86 : decode b_MO_ruleFault 86 = .ok (.lconst 0, 1) ∧ 86 + 1 = 87 := ⟨by decide +kernel, rfl⟩
theorem dMO_ruleFault_87 : decode b_MO_ruleFault 87 = .ok (.lcmp, 1) ∧ 87 + 1 = 88 := ⟨by decide +kernel, rfl⟩
theorem dMO_ruleFault_88 : decode b_MO_ruleFault 88 = .ok (.ifCond .eq (16), 3) ∧ 88 + 3 = 91 ∧ ((88 : Nat) : Int) + (16) = ((104 : Nat) : Int) := ⟨by decide +kernel, rfl, by decide⟩
theorem dMO_ruleFault_91 : decode b_MO_ruleFault 91 = .ok (.aload_n 0, 1) ∧ 91 + 1 = 92 := ⟨by decide +kernel, rfl⟩
theorem dMO_ruleFault_92 : decode b_MO_ruleFault 92 = .ok (.bipush (17), 2) ∧ 92 + 2 = 94 := ⟨by decide +kernel, rfl⟩
theorem dMO_ruleFault_94 : decode b_MO_ruleFault 94 = .ok (.aload_n 0, 1) ∧ 94 + 1 = 95 := ⟨by decide +kernel, rfl⟩
theorem dMO_ruleFault_95 : decode b_MO_ruleFault 95 = .ok (.iload_n 1, 1) ∧ 95 + 1 = 96 := ⟨by decide +kernel, rfl⟩
theorem dMO_ruleFault_96 : decode b_MO_ruleFault 96 = .ok (.iconst 3, 1) ∧ 96 + 1 = 97 := ⟨by decide +kernel, rfl⟩
theorem dMO_ruleFault_97 : decode b_MO_ruleFault 97 = .ok (.invokevirtual 257, 3) ∧ 97 + 3 = 100 := ⟨by decide +kernel, rfl⟩
theorem dMO_ruleFault_100 : decode b_MO_ruleFault 100 = .ok (.invokevirtual 264, 3) ∧ 100 + 3 = 103 := ⟨by decide +kernel, rfl⟩
theorem dMO_ruleFault_103 : decode b_MO_ruleFault 103 = .ok (.ireturn, 1) ∧ 103 + 1 = 104 := ⟨by decide +kernel, rfl⟩
theorem dMO_ruleFault_104 : decode b_MO_ruleFault 104 = .ok (.iload_n 3, 1) ∧ 104 + 1 = 105 := ⟨by decide +kernel, rfl⟩
theorem dMO_ruleFault_105 : decode b_MO_ruleFault 105 = .ok (.ifCond .eq (13), 3) ∧ 105 + 3 = 108 ∧ ((105 : Nat) : Int) + (13) = ((118 : Nat) : Int) := ⟨by decide +kernel, rfl, by decide⟩
theorem dMO_ruleFault_108 : decode b_MO_ruleFault 108 = .ok (.aload_n 0, 1) ∧ 108 + 1 = 109 := ⟨by decide +kernel, rfl⟩
theorem dMO_ruleFault_109 : decode b_MO_ruleFault 109 = .ok (.getfield 107, 3) ∧ 109 + 3 = 112 := ⟨by decide +kernel, rfl⟩
theorem dMO_ruleFault_112 : decode b_MO_ruleFault 112 = .ok (.bipush (8), 2) ∧ 112 + 2 = 114 := ⟨by decide +kernel, rfl⟩
theorem dMO_ruleFault_114 : decode b_MO_ruleFault 114 = .ok (.iaload, 1) ∧ 114 + 1 = 115 := ⟨by decide +kernel, rfl⟩
theorem dMO_ruleFault_115 : decode b_MO_ruleFault 115 = .ok (.goto (20), 3) ∧ 115 + 3 = 118 ∧ ((115 : Nat) : Int) + (20) = ((135 : Nat) : Int) := ⟨by decide +kernel, rfl, by decide⟩
theorem dMO_ruleFault_118 : decode b_MO_ruleFault 118 = .ok (.iload_n 2, 1) ∧ 118 + 1 = 119 := ⟨by decide +kernel, rfl⟩
theorem dMO_ruleFault_119 : decode b_MO_ruleFault 119 = .ok (.bipush (8), 2) ∧ 119 + 2 = 121 := ⟨by decide +kernel, rfl⟩
theorem dMO_ruleFault_121 : decode b_MO_ruleFault 121 = .ok (.if_icmp .ne (13), 3) ∧ 121 + 3 = 124 ∧ ((121 : Nat) : Int) + (13) = ((134 : Nat) : Int) := ⟨by decide +kernel, rfl, by decide⟩
theorem dMO_ruleFault_124 : decode b_MO_ruleFault 124 = .ok (.aload_n 0, 1) ∧ 124 + 1 = 125 := ⟨by decide +kernel, rfl⟩
theorem dMO_ruleFault_125 : decode b_MO_ruleFault 125 = .ok (.getfield 107, 3) ∧ 125 + 3 = 128 := ⟨by decide +kernel, rfl⟩
theorem dMO_ruleFault_128 : decode b_MO_ruleFault 128 = .ok (.bipush (9), 2) ∧ 128 + 2 = 130 := ⟨by decide +kernel, rfl⟩
theorem dMO_ruleFault_130 : decode b_MO_ruleFault 130 = .ok (.iaload, 1) ∧ 130 + 1 = 131 := ⟨by decide +kernel, rfl⟩
theorem dMO_ruleFault_131 : decode b_MO_ruleFault 131 = .ok (.goto (4), 3) ∧ 131 + 3 = 134 ∧ ((131 : Nat) : Int) + (4) = ((135 : Nat) : Int) := ⟨by decide +kernel, rfl, by decide⟩
theorem dMO_ruleFault_134 : decode b_MO_ruleFault 134 = .ok (.iconst 0, 1) ∧ 134 + 1 = 135 := ⟨by decide +kernel, rfl⟩
theorem dMO_ruleFault_135 : decode b_MO_ruleFault 135 = .ok (.istore 4, 2) ∧ 135 + 2 = 137 := ⟨by decide +kernel, rfl⟩
theorem dMO_ruleFault_137 : decode b_MO_ruleFault 137 = .ok (.aload_n 0, 1) ∧ 137 + 1 = 138 := ⟨by decide +kernel, rfl⟩
theorem dMO_ruleFault_138 : decode b_MO_ruleFault 138 = .ok (.iload_n 1, 1) ∧ 138 + 1 = 139 := ⟨by decide +kernel, rfl⟩
theorem dMO_ruleFault_139 : decode b_MO_ruleFault 139 = .ok (.bipush (6), 2) ∧ 139 + 2 = 141 := ⟨by decide +kernel, rfl⟩
theorem dMO_ruleFault_141 : decode b_MO_ruleFault 141 = .ok (.invokevirtual 273, 3) ∧ 141 + 3 = 144 := ⟨by decide +kernel, rfl⟩
theorem dMO_ruleFault_144 : decode b_MO_ruleFault 144 = .ok (.iload 4, 2) ∧ 144 + 2 = 146 := ⟨by decide +kernel, rfl⟩
theorem dMO_ruleFault_146 : decode b_MO_ruleFault 146 = .ok (.i2l, 1) ∧ 146 + 1 = 147 := ⟨by decide +kernel, rfl⟩
theorem dMO_ruleFault_147 : decode b_MO_ruleFault 147 = .ok (.lcmp, 1) ∧ 147 + 1 = 148 := ⟨by decide +kernel, rfl⟩
theorem dMO_ruleFault_148 : decode b_MO_ruleFault 148 = .ok (.ifCond .ne (18), 3) ∧ 148 + 3 = 151 ∧ ((148 : Nat) : Int) + (18) = ((166 : Nat) : Int) := ⟨by decide +kernel, rfl, by decide⟩
theorem dMO_ruleFault_151 : decode b_MO_ruleFault 151 = .ok (.iload_n 3, 1) ∧ 151 + 1 = 152 := ⟨by decide +kernel, rfl⟩
theorem dMO_ruleFault_152 : decode b_MO_ruleFault 152 = .ok (.ifCond .ne (9), 3) ∧ 152 + 3 = 155 ∧ ((152 : Nat) : Int) + (9) = ((161 : Nat) : Int) := ⟨by decide +kernel, rfl, by decide⟩
theorem dMO_ruleFault_155 : decode b_MO_ruleFault 155 = .ok (.iload_n 2, 1) ∧ 155 + 1 = 156 := ⟨by decide +kernel, rfl⟩
theorem dMO_ruleFault_156 : decode b_MO_ruleFault 156 = .ok (.bipush (8), 2) ∧ 156 + 2 = 158 := ⟨by decide +kernel, rfl⟩
theorem dMO_ruleFault_158 : decode b_MO_ruleFault 158 = .ok (.if_icmp .ne (22), 3) ∧ 158 + 3 = 161 ∧ ((158 : Nat) : Int) + (22) = ((180 : Nat) : Int) := ⟨by decide +kernel, rfl, by decide⟩
theorem dMO_ruleFault_161 : decode b_MO_ruleFault 161 = .ok (.iload 4, 2) ∧ 161 + 2 = 163 := ⟨by decide +kernel, rfl⟩
theorem dMO_ruleFault_163 : decode b_MO_ruleFault 163 = .ok (.ifCond .ne (17), 3) ∧ 163 + 3 = 166 ∧ ((163 : Nat) : Int) + (17) = ((180 : Nat) : Int) := ⟨by decide +kernel, rfl, by decide⟩
theorem dMO_ruleFault_166 : decode b_MO_ruleFault 166 = .ok (.aload_n 0, 1) ∧ 166 + 1 = 167 := ⟨by decide +kernel, rfl⟩
theorem dMO_ruleFault_167 : decode b_MO_ruleFault 167 = .ok (.bipush (17), 2) ∧ 167 + 2 = 169 := ⟨by decide +kernel, rfl⟩
theorem dMO_ruleFault_169 : decode b_MO_ruleFault 169 = .ok (.aload_n 0, 1) ∧ 169 + 1 = 170 := ⟨by decide +kernel, rfl⟩
theorem dMO_ruleFault_170 : decode b_MO_ruleFault 170 = .ok (.iload_n 1, 1) ∧ 170 + 1 = 171 := ⟨by decide +kernel, rfl⟩
theorem dMO_ruleFault_171 : decode b_MO_ruleFault 171 = .ok (.bipush (6), 2) ∧ 171 + 2 = 173 := ⟨by decide +kernel, rfl⟩
theorem dMO_ruleFault_173 : decode b_MO_ruleFault 173 = .ok (.invokevirtual 257, 3) ∧ 173 + 3 = 176 := ⟨by decide +kernel, rfl⟩
theorem dMO_ruleFault_176 : decode b_MO_ruleFault 176 = .ok (.invokevirtual 264, 3) ∧ 176 + 3 = 179 := ⟨by decide +kernel, rfl⟩
theorem dMO_ruleFault_179 : decode b_MO_ruleFault 179 = .ok (.ireturn, 1) ∧ 179 + 1 = 180 := ⟨by decide +kernel, rfl⟩
theorem dMO_ruleFault_180 : decode b_MO_ruleFault 180 = .ok (.iload_n 3, 1) ∧ 180 + 1 = 181 := ⟨by decide +kernel, rfl⟩
theorem dMO_ruleFault_181 : decode b_MO_ruleFault 181 = .ok (.ifCond .eq (14), 3) ∧ 181 + 3 = 184 ∧ ((181 : Nat) : Int) + (14) = ((195 : Nat) : Int) := ⟨by decide +kernel, rfl, by decide⟩
theorem dMO_ruleFault_184 : decode b_MO_ruleFault 184 = .ok (.aload_n 0, 1) ∧ 184 + 1 = 185 := ⟨by decide +kernel, rfl⟩
theorem dMO_ruleFault_185 : decode b_MO_ruleFault 185 = .ok (.getfield 107, 3) ∧ 185 + 3 = 188 := ⟨by decide +kernel, rfl⟩
theorem dMO_ruleFault_188 : decode b_MO_ruleFault 188 = .ok (.iload_n 2, 1) ∧ 188 + 1 = 189 := ⟨by decide +kernel, rfl⟩
theorem dMO_ruleFault_189 : decode b_MO_ruleFault 189 = .ok (.iconst 5, 1) ∧ 189 + 1 = 190 := ⟨by decide +kernel, rfl⟩
theorem dMO_ruleFault_190 : decode b_MO_ruleFault 190 = .ok (.isub, 1) ∧ 190 + 1 = 191 := ⟨by decide +kernel, rfl⟩
theorem dMO_ruleFault_191 : decode b_MO_ruleFault 191 = .ok (.iaload, 1) ∧ 191 + 1 = 192 := ⟨by decide +kernel, rfl⟩
theorem dMO_ruleFault_192 : decode b_MO_ruleFault 192 = .ok (.goto (4), 3) ∧ 192 + 3 = 195 ∧ ((192 : Nat) : Int) + (4) = ((196 : Nat) : Int) := ⟨by decide +kernel, rfl, by decide⟩
theorem dMO_ruleFault_195 : decode b_MO_ruleFault 195 = .ok (.iconst 0, 1) ∧ 195 + 1 = 196 := ⟨by decide +kernel, rfl⟩
theorem dMO_ruleFault_196 : decode b_MO_ruleFault 196 = .ok (.istore 5, 2) ∧ 196 + 2 = 198 := ⟨by decide +kernel, rfl⟩
theorem dMO_ruleFault_198 : decode b_MO_ruleFault 198 = .ok (.iload_n 2, 1) ∧ 198 + 1 = 199 := ⟨by decide +kernel, rfl⟩
theorem dMO_ruleFault_199 : decode b_MO_ruleFault 199 = .ok (.bipush (8), 2) ∧ 199 + 2 = 201 := ⟨by decide +kernel, rfl⟩
theorem dMO_ruleFault_201 : decode b_MO_ruleFault 201 = .ok (.if_icmp .eq (40), 3) ∧ 201 + 3 = 204 ∧ ((201 : Nat) : Int) + (40) = ((241 : Nat) : Int) := ⟨by decide +kernel, rfl, by decide⟩
theorem dMO_ruleFault_204 : decode b_MO_ruleFault 204 = .ok (.aload_n 0, 1) ∧ 204 + 1 = 205 := ⟨by decide +kernel, rfl⟩
theorem dMO_ruleFault_205 : decode b_MO_ruleFault 205 = .ok (.iload_n 1, 1) ∧ 205 + 1 = 206 := ⟨by decide +kernel, rfl⟩
theorem dMO_ruleFault_206 : decode b_MO_ruleFault 206 = .ok (.bipush (7), 2) ∧ 206 + 2 = 208 := ⟨by decide +kernel, rfl⟩
theorem dMO_ruleFault_208 : decode b_MO_ruleFault 208 = .ok (.invokevirtual 273, 3) ∧ 208 + 3 = 211 := ⟨by decide +kernel, rfl⟩
theorem dMO_ruleFault_211 : decode b_MO_ruleFault 211 = .ok (.iload 5, 2) ∧ 211 + 2 = 213 := ⟨by decide +kernel, rfl⟩
theorem dMO_ruleFault_213 : decode b_MO_ruleFault 213 = .ok (.i2l, 1) ∧ 213 + 1 = 214 := ⟨by decide +kernel, rfl⟩
theorem dMO_ruleFault_214 : decode b_MO_ruleFault 214 = .ok (.lcmp, 1) ∧ 214 + 1 = 215 := ⟨by decide +kernel, rfl⟩
theorem dMO_ruleFault_215 : decode b_MO_ruleFault 215 = .ok (.ifCond .ne (12), 3) ∧ 215 + 3 = 218 ∧ ((215 : Nat) : Int) + (12) = ((227 : Nat) : Int) := ⟨by decide +kernel, rfl, by decide⟩
theorem dMO_ruleFault_218 : decode b_MO_ruleFault 218 = .ok (.iload_n 3, 1) ∧ 218 + 1 = 219 := ⟨by decide +kernel, rfl⟩
theorem dMO_ruleFault_219 : decode b_MO_ruleFault 219 = .ok (.ifCond .eq (22), 3) ∧ 219 + 3 = 222 ∧ ((219 : Nat) : Int) + (22) = ((241 : Nat) : Int) := ⟨by decide +kernel, rfl, by decide⟩
theorem dMO_ruleFault_222 : decode b_MO_ruleFault 222 = .ok (.iload 5, 2) ∧ 222 + 2 = 224 := ⟨by decide +kernel, rfl⟩
theorem dMO_ruleFault_224 : decode b_MO_ruleFault 224 = .ok (.ifCond .ne (17), 3) ∧ 224 + 3 = 227 ∧ ((224 : Nat) : Int) + (17) = ((241 : Nat) : Int) := ⟨by decide +kernel, rfl, by decide⟩
theorem dMO_ruleFault_227 : decode b_MO_ruleFault 227 = .ok (.aload_n 0, 1) ∧ 227 + 1 = 228 := ⟨by decide +kernel, rfl⟩
theorem dMO_ruleFault_228 : decode b_MO_ruleFault 228 = .ok (.bipush (17), 2) ∧ 228 + 2 = 230 := ⟨by decide +kernel, rfl⟩
theorem dMO_ruleFault_230 : decode b_MO_ruleFault 230 = .ok (.aload_n 0, 1) ∧ 230 + 1 = 231 := ⟨by decide +kernel, rfl⟩
theorem dMO_ruleFault_231 : decode b_MO_ruleFault 231 = .ok (.iload_n 1, 1) ∧ 231 + 1 = 232 := ⟨by decide +kernel, rfl⟩
theorem dMO_ruleFault_232 : decode b_MO_ruleFault 232 = .ok (.bipush (7), 2) ∧ 232 + 2 = 234 := ⟨by decide +kernel, rfl⟩
theorem dMO_ruleFault_234 : decode b_MO_ruleFault 234 = .ok (.invokevirtual 257, 3) ∧ 234 + 3 = 237 := ⟨by decide +kernel, rfl⟩
theorem dMO_ruleFault_237 : decode b_MO_ruleFault 237 = .ok (.invokevirtual 264, 3) ∧ 237 + 3 = 240 := ⟨by decide +kernel, rfl⟩
theorem dMO_ruleFault_240 : decode b_MO_ruleFault 240 = .ok (.ireturn, 1) ∧ 240 + 1 = 241 := ⟨by decide +kernel, rfl⟩
theorem dMO_ruleFault_241 : decode b_MO_ruleFault 241 = .ok (.aload_n 0, 1) ∧ 241 + 1 = 242 := ⟨by decide +kernel, rfl⟩
theorem dMO_ruleFault_242 : decode b_MO_ruleFault 242 = .ok (.iload_n 1, 1) ∧ 242 + 1 = 243 := ⟨by decide +kernel, rfl⟩
theorem dMO_ruleFault_243 : decode b_MO_ruleFault 243 = .ok (.bipush (9), 2) ∧ 243 + 2 = 245 := ⟨by decide +kernel, rfl⟩
theorem dMO_ruleFault_245 : decode b_MO_ruleFault 245 = .ok (.invokevirtual 273, 3) ∧ 245 + 3 = 248 := ⟨by decide +kernel, rfl⟩
theorem dMO_ruleFault_248 : decode b_MO_ruleFault 248 = .ok (.iload_n 2, 1) ∧ 248 + 1 = 249 := ⟨by decide +kernel, rfl⟩
theorem dMO_ruleFault_249 : decode b_MO_ruleFault 249 = .ok (.invokestatic 222, 3) ∧ 249 + 3 = 252 := ⟨by decide +kernel, rfl⟩
theorem dMO_ruleFault_252 : decode b_MO_ruleFault 252 = .ok (.i2l, 1) ∧ 252 + 1 = 253 := ⟨by decide +kernel, rfl⟩
theorem dMO_ruleFault_253 : decode b_MO_ruleFault 253 = .ok (.lcmp, 1) ∧ 253 + 1 = 254 := ⟨by decide +kernel, rfl⟩
theorem dMO_ruleFault_254 : decode b_MO_ruleFault 254 = .ok (.ifCond .eq (19), 3) ∧ 254 + 3 = 257 ∧ ((254 : Nat) : Int) + (19) = ((273 : Nat) : Int) := ⟨by decide +kernel, rfl, by decide⟩
theorem dMO_ruleFault_257 : decode b_MO_ruleFault 257 = .ok (.aload_n 0, 1) ∧ 257 + 1 = 258 := ⟨by decide +kernel, rfl⟩
theorem dMO_ruleFault_258 : decode b_MO_ruleFault 258 = .ok (.bipush (17), 2) ∧ 258 + 2 = 260 := ⟨by decide +kernel, rfl⟩
theorem dMO_ruleFault_260 : decode b_MO_ruleFault 260 = .ok (.aload_n 0, 1) ∧ 260 + 1 = 261 := ⟨by decide +kernel, rfl⟩
theorem dMO_ruleFault_261 : decode b_MO_ruleFault 261 = .ok (.iload_n 1, 1) ∧ 261 + 1 = 262 := ⟨by decide +kernel, rfl⟩
theorem dMO_ruleFault_262 : decode b_MO_ruleFault 262 = .ok (.bipush (9), 2) ∧ 262 + 2 = 264 := ⟨by decide +kernel, rfl⟩
theorem dMO_ruleFault_264 : decode b_MO_ruleFault 264 = .ok (.invokevirtual 257, 3) ∧ 264 + 3 = 267 := ⟨by decide +kernel, rfl⟩
theorem dMO_ruleFault_267 : decode b_MO_ruleFault 267 = .ok (.invokevirtual 264, 3) ∧ 267 + 3 = 270 := ⟨by decide +kernel, rfl⟩
theorem dMO_ruleFault_270 : decode b_MO_ruleFault 270 = .ok (.goto (4), 3) ∧ 270 + 3 = 273 ∧ ((270 : Nat) : Int) + (4) = ((274 : Nat) : Int) := ⟨by decide +kernel, rfl, by decide⟩
theorem dMO_ruleFault_273 : decode b_MO_ruleFault 273 = .ok (.iconst 0, 1) ∧ 273 + 1 = 274 := ⟨by decide +kernel, rfl⟩
theorem dMO_ruleFault_274 : decode b_MO_ruleFault 274 = .ok (.ireturn, 1) ∧ 274 + 1 = 275 := ⟨by decide +kernel, rfl⟩
theorem dMO_meets_0 : decode b_MO_meets 0 = .ok (.lload_n 2, 1) ∧ 0 + 1 = 1 := ⟨by decide +kernel, rfl⟩
theorem dMO_meets_1 : decode b_MO_meets 1 = .ok (.lconst 0, 1) ∧ 1 + 1 = 2 := ⟨by decide +kernel, rfl⟩
theorem dMO_meets_2 : decode b_MO_meets 2 = .ok (.lcmp, 1) ∧ 2 + 1 = 3 := ⟨by decide +kernel, rfl⟩
theorem dMO_meets_3 : decode b_MO_meets 3 = .ok (.ifCond .le (33), 3) ∧ 3 + 3 = 6 ∧ ((3 : Nat) : Int) + (33) = ((36 : Nat) : Int) := ⟨by decide +kernel, rfl, by decide⟩
theorem dMO_meets_6 : decode b_MO_meets 6 = .ok (.lload 6, 2) ∧ 6 + 2 = 8 := ⟨by decide +kernel, rfl⟩
theorem dMO_meets_8 : decode b_MO_meets 8 = .ok (.lconst 0, 1) ∧ 8 + 1 = 9 := ⟨by decide +kernel, rfl⟩
theorem dMO_meets_9 : decode b_MO_meets 9 = .ok (.lcmp, 1) ∧ 9 + 1 = 10 := ⟨by decide +kernel, rfl⟩
theorem dMO_meets_10 : decode b_MO_meets 10 = .ok (.ifCond .le (26), 3) ∧ 10 + 3 = 13 ∧ ((10 : Nat) : Int) + (26) = ((36 : Nat) : Int) := ⟨by decide +kernel, rfl, by decide⟩
theorem dMO_meets_13 : decode b_MO_meets 13 = .ok (.lload_n 0, 1) ∧ 13 + 1 = 14 := ⟨by decide +kernel, rfl⟩
theorem dMO_meets_14 : decode b_MO_meets 14 = .ok (.lload 4, 2) ∧ 14 + 2 = 16 := ⟨by decide +kernel, rfl⟩
theorem dMO_meets_16 : decode b_MO_meets 16 = .ok (.lload 6, 2) ∧ 16 + 2 = 18 := ⟨by decide +kernel, rfl⟩
theorem dMO_meets_18 : decode b_MO_meets 18 = .ok (.ladd, 1) ∧ 18 + 1 = 19 := ⟨by decide +kernel, rfl⟩
theorem dMO_meets_19 : decode b_MO_meets 19 = .ok (.lcmp, 1) ∧ 19 + 1 = 20 := ⟨by decide +kernel, rfl⟩
theorem dMO_meets_20 : decode b_MO_meets 20 = .ok (.ifCond .ge (16), 3) ∧ 20 + 3 = 23 ∧ ((20 : Nat) : Int) + (16) = ((36 : Nat) : Int) := ⟨by decide +kernel, rfl, by decide⟩
theorem dMO_meets_23 : decode b_MO_meets 23 = .ok (.lload 4, 2) ∧ 23 + 2 = 25 := ⟨by decide +kernel, rfl⟩
theorem dMO_meets_25 : decode b_MO_meets 25 = .ok (.lload_n 0, 1) ∧ 25 + 1 = 26 := ⟨by decide +kernel, rfl⟩
theorem dMO_meets_26 : decode b_MO_meets 26 = .ok (.lload_n 2, 1) ∧ 26 + 1 = 27 := ⟨by decide +kernel, rfl⟩
theorem dMO_meets_27 : decode b_MO_meets 27 = .ok (.ladd, 1) ∧ 27 + 1 = 28 := ⟨by decide +kernel, rfl⟩
theorem dMO_meets_28 : decode b_MO_meets 28 = .ok (.lcmp, 1) ∧ 28 + 1 = 29 := ⟨by decide +kernel, rfl⟩
theorem dMO_meets_29 : decode b_MO_meets 29 = .ok (.ifCond .ge (7), 3) ∧ 29 + 3 = 32 ∧ ((29 : Nat) : Int) + (7) = ((36 : Nat) : Int) := ⟨by decide +kernel, rfl, by decide⟩
theorem dMO_meets_32 : decode b_MO_meets 32 = .ok (.iconst 1, 1) ∧ 32 + 1 = 33 := ⟨by decide +kernel, rfl⟩
theorem dMO_meets_33 : decode b_MO_meets 33 = .ok (.goto (4), 3) ∧ 33 + 3 = 36 ∧ ((33 : Nat) : Int) + (4) = ((37 : Nat) : Int) := ⟨by decide +kernel, rfl, by decide⟩
theorem dMO_meets_36 : decode b_MO_meets 36 = .ok (.iconst 0, 1) ∧ 36 + 1 = 37 := ⟨by decide +kernel, rfl⟩
theorem dMO_meets_37 : decode b_MO_meets 37 = .ok (.ireturn, 1) ∧ 37 + 1 = 38 := ⟨by decide +kernel, rfl⟩
theorem dMO_entryFault_0 : decode b_MO_entryFault 0 = .ok (.iconst 0, 1) ∧ 0 + 1 = 1 := ⟨by decide +kernel, rfl⟩
theorem dMO_entryFault_1 : decode b_MO_entryFault 1 = .ok (.istore_n 2, 1) ∧ 1 + 1 = 2 := ⟨by decide +kernel, rfl⟩
theorem dMO_entryFault_2 : decode b_MO_entryFault 2 = .ok (.iload_n 2, 1) ∧ 2 + 1 = 3 := ⟨by decide +kernel, rfl⟩
theorem dMO_entryFault_3 : decode b_MO_entryFault 3 = .ok (.bipush (10), 2) ∧ 3 + 2 = 5 := ⟨by decide +kernel, rfl⟩
theorem dMO_entryFault_5 : decode b_MO_entryFault 5 = .ok (.if_icmp .ge (37), 3) ∧ 5 + 3 = 8 ∧ ((5 : Nat) : Int) + (37) = ((42 : Nat) : Int) := ⟨by decide +kernel, rfl, by decide⟩
theorem dMO_entryFault_8 : decode b_MO_entryFault 8 = .ok (.iload_n 1, 1) ∧ 8 + 1 = 9 := ⟨by decide +kernel, rfl⟩
theorem dMO_entryFault_9 : decode b_MO_entryFault 9 = .ok (.ifCond .ne (33), 3) ∧ 9 + 3 = 12 ∧ ((9 : Nat) : Int) + (33) = ((42 : Nat) : Int) := ⟨by decide +kernel, rfl, by decide⟩
theorem dMO_entryFault_12 : decode b_MO_entryFault 12 = .ok (.aload_n 0, 1) ∧ 12 + 1 = 13 := ⟨by decide +kernel, rfl⟩
theorem dMO_entryFault_13 : decode b_MO_entryFault 13 = .ok (.iconst 0, 1) ∧ 13 + 1 = 14 := ⟨by decide +kernel, rfl⟩
theorem dMO_entryFault_14 : decode b_MO_entryFault 14 = .ok (.iload_n 2, 1) ∧ 14 + 1 = 15 := ⟨by decide +kernel, rfl⟩
theorem dMO_entryFault_15 : decode b_MO_entryFault 15 = .ok (.invokevirtual 273, 3) ∧ 15 + 3 = 18 := ⟨by decide +kernel, rfl⟩
theorem dMO_entryFault_18 : decode b_MO_entryFault 18 = .ok (.lconst 0, 1) ∧ 18 + 1 = 19 := ⟨by decide +kernel, rfl⟩
theorem dMO_entryFault_19 : decode b_MO_entryFault 19 = .ok (.lcmp, 1) ∧ 19 + 1 = 20 := ⟨by decide +kernel, rfl⟩
theorem dMO_entryFault_20 : decode b_MO_entryFault 20 = .ok (.ifCond .eq (16), 3) ∧ 20 + 3 = 23 ∧ ((20 : Nat) : Int) + (16) = ((36 : Nat) : Int) := ⟨by decide +kernel, rfl, by decide⟩
theorem dMO_entryFault_23 : decode b_MO_entryFault 23 = .ok (.aload_n 0, 1) ∧ 23 + 1 = 24 := ⟨by decide +kernel, rfl⟩
theorem dMO_entryFault_24 : decode b_MO_entryFault 24 = .ok (.bipush (11), 2) ∧ 24 + 2 = 26 := ⟨by decide +kernel, rfl⟩
theorem dMO_entryFault_26 : decode b_MO_entryFault 26 = .ok (.aload_n 0, 1) ∧ 26 + 1 = 27 := ⟨by decide +kernel, rfl⟩
theorem dMO_entryFault_27 : decode b_MO_entryFault 27 = .ok (.iconst 0, 1) ∧ 27 + 1 = 28 := ⟨by decide +kernel, rfl⟩
theorem dMO_entryFault_28 : decode b_MO_entryFault 28 = .ok (.iload_n 2, 1) ∧ 28 + 1 = 29 := ⟨by decide +kernel, rfl⟩
theorem dMO_entryFault_29 : decode b_MO_entryFault 29 = .ok (.invokevirtual 257, 3) ∧ 29 + 3 = 32 := ⟨by decide +kernel, rfl⟩
theorem dMO_entryFault_32 : decode b_MO_entryFault 32 = .ok (.invokevirtual 264, 3) ∧ 32 + 3 = 35 := ⟨by decide +kernel, rfl⟩
theorem dMO_entryFault_35 : decode b_MO_entryFault 35 = .ok (.ireturn, 1) ∧ 35 + 1 = 36 := ⟨by decide +kernel, rfl⟩
theorem dMO_entryFault_36 : decode b_MO_entryFault 36 = .ok (.iinc 2 (1), 3) ∧ 36 + 3 = 39 := ⟨by decide +kernel, rfl⟩
theorem dMO_entryFault_39 : decode b_MO_entryFault 39 = .ok (.goto (-37), 3) ∧ 39 + 3 = 42 ∧ ((39 : Nat) : Int) + (-37) = ((2 : Nat) : Int) := ⟨by decide +kernel, rfl, by decide⟩
theorem dMO_entryFault_42 : decode b_MO_entryFault 42 = .ok (.iload_n 1, 1) ∧ 42 + 1 = 43 := ⟨by decide +kernel, rfl⟩
theorem dMO_entryFault_43 : decode b_MO_entryFault 43 = .ok (.ifCond .ne (5), 3) ∧ 43 + 3 = 46 ∧ ((43 : Nat) : Int) + (5) = ((48 : Nat) : Int) := ⟨by decide +kernel, rfl, by decide⟩
theorem dMO_entryFault_46 : decode b_MO_entryFault 46 = .ok (.iconst 0, 1) ∧ 46 + 1 = 47 := ⟨by decide +kernel, rfl⟩
theorem dMO_entryFault_47 : decode b_MO_entryFault 47 = .ok (.ireturn, 1) ∧ 47 + 1 = 48 := ⟨by decide +kernel, rfl⟩
theorem dMO_entryFault_48 : decode b_MO_entryFault 48 = .ok (.aload_n 0, 1) ∧ 48 + 1 = 49 := ⟨by decide +kernel, rfl⟩
theorem dMO_entryFault_49 : decode b_MO_entryFault 49 = .ok (.iload_n 1, 1) ∧ 49 + 1 = 50 := ⟨by decide +kernel, rfl⟩
theorem dMO_entryFault_50 : decode b_MO_entryFault 50 = .ok (.iconst 1, 1) ∧ 50 + 1 = 51 := ⟨by decide +kernel, rfl⟩
theorem dMO_entryFault_51 : decode b_MO_entryFault 51 = .ok (.invokevirtual 273, 3) ∧ 51 + 3 = 54 := ⟨by decide +kernel, rfl⟩
theorem dMO_entryFault_54 : decode b_MO_entryFault 54 = .ok (.lstore_n 2, 1) ∧ 54 + 1 = 55 := ⟨by decide +kernel, rfl⟩
theorem dMO_entryFault_55 : decode b_MO_entryFault 55 = .ok (.lload_n 2, 1) ∧ 55 + 1 = 56 := ⟨by decide +kernel, rfl⟩
theorem dMO_entryFault_56 : decode b_MO_entryFault 56 = .ok (.lconst 1, 1) ∧ 56 + 1 = 57 := ⟨by decide +kernel, rfl⟩
theorem dMO_entryFault_57 : decode b_MO_entryFault 57 = .ok (.lcmp, 1) ∧ 57 + 1 = 58 := ⟨by decide +kernel, rfl⟩
theorem dMO_entryFault_58 : decode b_MO_entryFault 58 = .ok (.ifCond .lt (19), 3) ∧ 58 + 3 = 61 ∧ ((58 : Nat) : Int) + (19) = ((77 : Nat) : Int) := ⟨by decide +kernel, rfl, by decide⟩
theorem dMO_entryFault_61 : decode b_MO_entryFault 61 = .ok (.lload_n 2, 1) ∧ 61 + 1 = 62 := ⟨by decide +kernel, rfl⟩
theorem dMO_entryFault_62 : decode b_MO_entryFault 62 = .ok (.ldc2_w 267, 3) ∧ 62 + 3 = 65 := ⟨by decide +kernel, rfl⟩
theorem dMO_entryFault_65 : decode b_MO_entryFault 65 = .ok (.lcmp, 1) ∧ 65 + 1 = 66 := ⟨by decide +kernel, rfl⟩
theorem dMO_entryFault_66 : decode b_MO_entryFault 66 = .ok (.ifCond .le (24), 3) ∧ 66 + 3 = 69 ∧ ((66 : Nat) : Int) + (24) = ((90 : Nat) : Int) := ⟨by decide +kernel, rfl, by decide⟩
theorem dMO_entryFault_69 : decode b_MO_entryFault 69 = .ok (.lload_n 2, 1) ∧ 69 + 1 = 70 := ⟨by decide +kernel, rfl⟩
theorem dMO_entryFault_70 : decode b_MO_entryFault 70 = .ok (.ldc2_w 277, 3) ∧ 70 + 3 = 73 := ⟨by decide +kernel, rfl⟩
theorem dMO_entryFault_73 : decode b_MO_entryFault 73 = .ok (.lcmp, 1) ∧ 73 + 1 = 74 := ⟨by decide +kernel, rfl⟩
theorem dMO_entryFault_74 : decode b_MO_entryFault 74 = .ok (.ifCond .eq (16), 3) ∧ 74 + 3 = 77 ∧ ((74 : Nat) : Int) + (16) = ((90 : Nat) : Int) := ⟨by decide +kernel, rfl, by decide⟩
theorem dMO_entryFault_77 : decode b_MO_entryFault 77 = .ok (.aload_n 0, 1) ∧ 77 + 1 = 78 := ⟨by decide +kernel, rfl⟩
theorem dMO_entryFault_78 : decode b_MO_entryFault 78 = .ok (.bipush (11), 2) ∧ 78 + 2 = 80 := ⟨by decide +kernel, rfl⟩
theorem dMO_entryFault_80 : decode b_MO_entryFault 80 = .ok (.aload_n 0, 1) ∧ 80 + 1 = 81 := ⟨by decide +kernel, rfl⟩
theorem dMO_entryFault_81 : decode b_MO_entryFault 81 = .ok (.iload_n 1, 1) ∧ 81 + 1 = 82 := ⟨by decide +kernel, rfl⟩
theorem dMO_entryFault_82 : decode b_MO_entryFault 82 = .ok (.iconst 1, 1) ∧ 82 + 1 = 83 := ⟨by decide +kernel, rfl⟩
theorem dMO_entryFault_83 : decode b_MO_entryFault 83 = .ok (.invokevirtual 257, 3) ∧ 83 + 3 = 86 := ⟨by decide +kernel, rfl⟩
theorem dMO_entryFault_86 : decode b_MO_entryFault 86 = .ok (.invokevirtual 264, 3) ∧ 86 + 3 = 89 := ⟨by decide +kernel, rfl⟩
theorem dMO_entryFault_89 : decode b_MO_entryFault 89 = .ok (.ireturn, 1) ∧ 89 + 1 = 90 := ⟨by decide +kernel, rfl⟩
theorem dMO_entryFault_90 : decode b_MO_entryFault 90 = .ok (.aload_n 0, 1) ∧ 90 + 1 = 91 := ⟨by decide +kernel, rfl⟩
theorem dMO_entryFault_91 : decode b_MO_entryFault 91 = .ok (.iload_n 1, 1) ∧ 91 + 1 = 92 := ⟨by decide +kernel, rfl⟩
theorem dMO_entryFault_92 : decode b_MO_entryFault 92 = .ok (.iconst 4, 1) ∧ 92 + 1 = 93 := ⟨by decide +kernel, rfl⟩
theorem dMO_entryFault_93 : decode b_MO_entryFault 93 = .ok (.invokevirtual 273, 3) ∧ 93 + 3 = 96 := ⟨by decide +kernel, rfl⟩
theorem dMO_entryFault_96 : decode b_MO_entryFault 96 = .ok (.lstore 4, 2) ∧ 96 + 2 = 98 := ⟨by decide +kernel, rfl⟩
theorem dMO_entryFault_98 : decode b_MO_entryFault 98 = .ok (.aload_n 0, 1) ∧ 98 + 1 = 99 := ⟨by decide +kernel, rfl⟩
theorem dMO_entryFault_99 : decode b_MO_entryFault 99 = .ok (.iload_n 1, 1) ∧ 99 + 1 = 100 := ⟨by decide +kernel, rfl⟩
theorem dMO_entryFault_100 : decode b_MO_entryFault 100 = .ok (.iconst 5, 1) ∧ 100 + 1 = 101 := ⟨by decide +kernel, rfl⟩
theorem dMO_entryFault_101 : decode b_MO_entryFault 101 = .ok (.invokevirtual 273, 3) ∧ 101 + 3 = 104 := ⟨by decide +kernel, rfl⟩
theorem dMO_entryFault_104 : decode b_MO_entryFault 104 = .ok (.lstore 6, 2) ∧ 104 + 2 = 106 := ⟨by decide +kernel, rfl⟩
theorem dMO_entryFault_106 : decode b_MO_entryFault 106 = .ok (.lload_n 2, 1) ∧ 106 + 1 = 107 := ⟨by decide +kernel, rfl⟩
theorem dMO_entryFault_107 : decode b_MO_entryFault 107 = .ok (.ldc2_w 277, 3) ∧ 107 + 3 = 110 := ⟨by decide +kernel, rfl⟩
theorem dMO_entryFault_110 : decode b_MO_entryFault 110 = .ok (.lcmp, 1) ∧ 110 + 1 = 111 := ⟨by decide +kernel, rfl⟩
theorem dMO_entryFault_111 : decode b_MO_entryFault 111 = .ok (.ifCond .eq (7), 3) ∧ 111 + 3 = 114 ∧ ((111 : Nat) : Int) + (7) = ((118 : Nat) : Int) := ⟨by decide +kernel, rfl, by decide⟩
theorem dMO_entryFault_114 : decode b_MO_entryFault 114 = .ok (.iconst 1, 1) ∧ 114 + 1 = 115 := ⟨by decide +kernel, rfl⟩
theorem dMO_entryFault_115 : decode b_MO_entryFault 115 = .ok (.goto (4), 3) ∧ 115 + 3 = 118 ∧ ((115 : Nat) : Int) + (4) = ((119 : Nat) : Int) := ⟨by decide +kernel, rfl, by decide⟩
theorem dMO_entryFault_118 : decode b_MO_entryFault 118 = .ok (.iconst 0, 1) ∧ 118 + 1 = 119 := ⟨by decide +kernel, rfl⟩
theorem dMO_entryFault_119 : decode b_MO_entryFault 119 = .ok (.istore 8, 2) ∧ 119 + 2 = 121 := ⟨by decide +kernel, rfl⟩
theorem dMO_entryFault_121 : decode b_MO_entryFault 121 = .ok (.iload 8, 2) ∧ 121 + 2 = 123 := ⟨by decide +kernel, rfl⟩
theorem dMO_entryFault_123 : decode b_MO_entryFault 123 = .ok (.ifCond .eq (46), 3) ∧ 123 + 3 = 126 ∧ ((123 : Nat) : Int) + (46) = ((169 : Nat) : Int) := ⟨by decide +kernel, rfl, by decide⟩
theorem dMO_entryFault_126 : decode b_MO_entryFault 126 = .ok (.lload 4, 2) ∧ 126 + 2 = 128 := ⟨by decide +kernel, rfl⟩
theorem dMO_entryFault_128 : decode b_MO_entryFault 128 = .ok (.lload 6, 2) ∧ 128 + 2 = 130 := ⟨by decide +kernel, rfl⟩
theorem dMO_entryFault_130 : decode b_MO_entryFault 130 = .ok (.ladd, 1) ∧ 130 + 1 = 131 := ⟨by decide +kernel, rfl⟩
theorem dMO_entryFault_131 : decode b_MO_entryFault 131 = .ok (.aload_n 0, 1) ∧ 131 + 1 = 132 := ⟨by decide +kernel, rfl⟩
theorem dMO_entryFault_132 : decode b_MO_entryFault 132 = .ok (.getfield 233, 3) ∧ 132 + 3 = 135 := ⟨by decide +kernel, rfl⟩
theorem dMO_entryFault_135 : decode b_MO_entryFault 135 = .ok (.i2l, 1) ∧ 135 + 1 = 136 := ⟨by decide +kernel, rfl⟩
theorem dMO_entryFault_136 : decode b_MO_entryFault 136 = .ok (.lcmp, 1) ∧ 136 + 1 = 137 := ⟨by decide +kernel, rfl⟩
theorem dMO_entryFault_137 : decode b_MO_entryFault 137 = .ok (.ifCond .gt (19), 3) ∧ 137 + 3 = 140 ∧ ((137 : Nat) : Int) + (19) = ((156 : Nat) : Int) := ⟨by decide +kernel, rfl, by decide⟩
theorem dMO_entryFault_140 : decode b_MO_entryFault 140 = .ok (.lload 6, 2) ∧ 140 + 2 = 142 := ⟨by decide +kernel, rfl⟩
theorem dMO_entryFault_142 : decode b_MO_entryFault 142 = .ok (.lconst 0, 1) ∧ 142 + 1 = 143 := ⟨by decide +kernel, rfl⟩
theorem dMO_entryFault_143 : decode b_MO_entryFault 143 = .ok (.lcmp, 1) ∧ 143 + 1 = 144 := ⟨by decide +kernel, rfl⟩
theorem dMO_entryFault_144 : decode b_MO_entryFault 144 = .ok (.ifCond .le (25), 3) ∧ 144 + 3 = 147 ∧ ((144 : Nat) : Int) + (25) = ((169 : Nat) : Int) := ⟨by decide +kernel, rfl, by decide⟩
theorem dMO_entryFault_147 : decode b_MO_entryFault 147 = .ok (.lload 4, 2) ∧ 147 + 2 = 149 := ⟨by decide +kernel, rfl⟩
theorem dMO_entryFault_149 : decode b_MO_entryFault 149 = .ok (.ldc2_w 269, 3) ∧ 149 + 3 = 152 := ⟨by decide +kernel, rfl⟩
theorem dMO_entryFault_152 : decode b_MO_entryFault 152 = .ok (.lcmp, 1) ∧ 152 + 1 = 153 := ⟨by decide +kernel, rfl⟩
theorem dMO_entryFault_153 : decode b_MO_entryFault 153 = .ok (.ifCond .ge (16), 3) ∧ 153 + 3 = 156 ∧ ((153 : Nat) : Int) + (16) = ((169 : Nat) : Int) := ⟨by decide +kernel, rfl, by decide⟩
theorem dMO_entryFault_156 : decode b_MO_entryFault 156 = .ok (.aload_n 0, 1) ∧ 156 + 1 = 157 := ⟨by decide +kernel, rfl⟩
theorem dMO_entryFault_157 : decode b_MO_entryFault 157 = .ok (.bipush (12), 2) ∧ 157 + 2 = 159 := ⟨by decide +kernel, rfl⟩
theorem dMO_entryFault_159 : decode b_MO_entryFault 159 = .ok (.aload_n 0, 1) ∧ 159 + 1 = 160 := ⟨by decide +kernel, rfl⟩
theorem dMO_entryFault_160 : decode b_MO_entryFault 160 = .ok (.iload_n 1, 1) ∧ 160 + 1 = 161 := ⟨by decide +kernel, rfl⟩
theorem dMO_entryFault_161 : decode b_MO_entryFault 161 = .ok (.iconst 4, 1) ∧ 161 + 1 = 162 := ⟨by decide +kernel, rfl⟩
theorem dMO_entryFault_162 : decode b_MO_entryFault 162 = .ok (.invokevirtual 257, 3) ∧ 162 + 3 = 165 := ⟨by decide +kernel, rfl⟩
theorem dMO_entryFault_165 : decode b_MO_entryFault 165 = .ok (.invokevirtual 264, 3) ∧ 165 + 3 = 168 := ⟨by decide +kernel, rfl⟩
theorem dMO_entryFault_168 : decode b_MO_entryFault 168 = .ok (.ireturn, 1) ∧ 168 + 1 = 169 := ⟨by decide +kernel, rfl⟩
theorem dMO_entryFault_169 : decode b_MO_entryFault 169 = .ok (.aload_n 0, 1) ∧ 169 + 1 = 170 := ⟨by decide +kernel, rfl⟩
theorem dMO_entryFault_170 : decode b_MO_entryFault 170 = .ok (.iload_n 1, 1) ∧ 170 + 1 = 171 := ⟨by decide +kernel, rfl⟩
theorem dMO_entryFault_171 : decode b_MO_entryFault 171 = .ok (.bipush (8), 2) ∧ 171 + 2 = 173 := ⟨by decide +kernel, rfl⟩
theorem dMO_entryFault_173 : decode b_MO_entryFault 173 = .ok (.invokevirtual 273, 3) ∧ 173 + 3 = 176 := ⟨by decide +kernel, rfl⟩
theorem dMO_entryFault_176 : decode b_MO_entryFault 176 = .ok (.lstore 9, 2) ∧ 176 + 2 = 178 := ⟨by decide +kernel, rfl⟩
theorem dMO_entryFault_178 : decode b_MO_entryFault 178 = .ok (.lload 9, 2) ∧ 178 + 2 = 180 := ⟨by decide +kernel, rfl⟩
theorem dMO_entryFault_180 : decode b_MO_entryFault 180 = .ok (.ldc2_w 279, 3) ∧ 180 + 3 = 183 := ⟨by decide +kernel, rfl⟩
theorem dMO_entryFault_183 : decode b_MO_entryFault 183 = .ok (.lcmp, 1) ∧ 183 + 1 = 184 := ⟨by decide +kernel, rfl⟩
theorem dMO_entryFault_184 : decode b_MO_entryFault 184 = .ok (.ifCond .gt (27), 3) ∧ 184 + 3 = 187 ∧ ((184 : Nat) : Int) + (27) = ((211 : Nat) : Int) := ⟨by decide +kernel, rfl, by decide⟩
theorem dMO_entryFault_187 : decode b_MO_entryFault 187 = .ok (.lload 9, 2) ∧ 187 + 2 = 189 := ⟨by decide +kernel, rfl⟩
theorem dMO_entryFault_189 : decode b_MO_entryFault 189 = .ok (.l2i, 1) ∧ 189 + 1 = 190 := ⟨by decide +kernel, rfl⟩
theorem dMO_entryFault_190 : decode b_MO_entryFault 190 = .ok (.invokestatic 141, 3) ∧ 190 + 3 = 193 := ⟨by decide +kernel, rfl⟩
theorem dMO_entryFault_193 : decode b_MO_entryFault 193 = .ok (.ifCond .eq (18), 3) ∧ 193 + 3 = 196 ∧ ((193 : Nat) : Int) + (18) = ((211 : Nat) : Int) := ⟨by decide +kernel, rfl, by decide⟩
theorem dMO_entryFault_196 : decode b_MO_entryFault 196 = .ok (.iload 8, 2) ∧ 196 + 2 = 198 := ⟨by decide +kernel, rfl⟩
theorem dMO_entryFault_198 : decode b_MO_entryFault 198 = .ok (.ifCond .eq (27), 3) ∧ 198 + 3 = 201 ∧ ((198 : Nat) : Int) + (27) = ((225 : Nat) : Int) := ⟨by decide +kernel, rfl, by decide⟩
theorem dMO_entryFault_201 : decode b_MO_entryFault 201 = .ok (.lload 4, 2) ∧ 201 + 2 = 203 := ⟨by decide +kernel, rfl⟩
theorem dMO_entryFault_203 : decode b_MO_entryFault 203 = .ok (.lload 9, 2) ∧ 203 + 2 = 205 := ⟨by decide +kernel, rfl⟩
theorem dMO_entryFault_205 : decode b_MO_entryFault 205 = .ok (.lrem, 1) ∧ 205 + 1 = 206 := ⟨by decide +kernel, rfl⟩
theorem dMO_entryFault_206 : decode b_MO_entryFault 206 = .ok (.lconst 0, 1) ∧ 206 + 1 = 207 := ⟨by decide +kernel, rfl⟩
theorem dMO_entryFault_207 : decode b_MO_entryFault 207 = .ok (.lcmp, 1) ∧ 207 + 1 = 208 := ⟨by decide +kernel, rfl⟩
theorem dMO_entryFault_208 : decode b_MO_entryFault 208 = .ok (.ifCond .eq (17), 3) ∧ 208 + 3 = 211 ∧ ((208 : Nat) : Int) + (17) = ((225 : Nat) : Int) := ⟨by decide +kernel, rfl, by decide⟩
theorem dMO_entryFault_211 : decode b_MO_entryFault 211 = .ok (.aload_n 0, 1) ∧ 211 + 1 = 212 := ⟨by decide +kernel, rfl⟩
theorem dMO_entryFault_212 : decode b_MO_entryFault 212 = .ok (.bipush (13), 2) ∧ 212 + 2 = 214 := ⟨by decide +kernel, rfl⟩
theorem dMO_entryFault_214 : decode b_MO_entryFault 214 = .ok (.aload_n 0, 1) ∧ 214 + 1 = 215 := ⟨by decide +kernel, rfl⟩
theorem dMO_entryFault_215 : decode b_MO_entryFault 215 = .ok (.iload_n 1, 1) ∧ 215 + 1 = 216 := ⟨by decide +kernel, rfl⟩
theorem dMO_entryFault_216 : decode b_MO_entryFault 216 = .ok (.bipush (8), 2) ∧ 216 + 2 = 218 := ⟨by decide +kernel, rfl⟩
theorem dMO_entryFault_218 : decode b_MO_entryFault 218 = .ok (.invokevirtual 257, 3) ∧ 218 + 3 = 221 := ⟨by decide +kernel, rfl⟩
theorem dMO_entryFault_221 : decode b_MO_entryFault 221 = .ok (.invokevirtual 264, 3) ∧ 221 + 3 = 224 := ⟨by decide +kernel, rfl⟩
theorem dMO_entryFault_224 : decode b_MO_entryFault 224 = .ok (.ireturn, 1) ∧ 224 + 1 = 225 := ⟨by decide +kernel, rfl⟩
theorem dMO_entryFault_225 : decode b_MO_entryFault 225 = .ok (.iload 8, 2) ∧ 225 + 2 = 227 := ⟨by decide +kernel, rfl⟩
theorem dMO_entryFault_227 : decode b_MO_entryFault 227 = .ok (.ifCond .eq (40), 3) ∧ 227 + 3 = 230 ∧ ((227 : Nat) : Int) + (40) = ((267 : Nat) : Int) := ⟨by decide +kernel, rfl, by decide⟩
theorem dMO_entryFault_230 : decode b_MO_entryFault 230 = .ok (.lload 4, 2) ∧ 230 + 2 = 232 := ⟨by decide +kernel, rfl⟩
theorem dMO_entryFault_232 : decode b_MO_entryFault 232 = .ok (.lload 6, 2) ∧ 232 + 2 = 234 := ⟨by decide +kernel, rfl⟩
theorem dMO_entryFault_234 : decode b_MO_entryFault 234 = .ok (.aload_n 0, 1) ∧ 234 + 1 = 235 := ⟨by decide +kernel, rfl⟩
theorem dMO_entryFault_235 : decode b_MO_entryFault 235 = .ok (.getfield 254, 3) ∧ 235 + 3 = 238 := ⟨by decide +kernel, rfl⟩
theorem dMO_entryFault_238 : decode b_MO_entryFault 238 = .ok (.i2l, 1) ∧ 238 + 1 = 239 := ⟨by decide +kernel, rfl⟩
theorem dMO_entryFault_239 : decode b_MO_entryFault 239 = .ok (.ldc2_w 271, 3) ∧ 239 + 3 = 242 := ⟨by decide +kernel, rfl⟩
theorem dMO_entryFault_242 : decode b_MO_entryFault 242 = .ok (.aload_n 0, 1) ∧ 242 + 1 = 243 := ⟨by decide +kernel, rfl⟩
theorem dMO_entryFault_243 : decode b_MO_entryFault 243 = .ok (.getfield 195, 3) ∧ 243 + 3 = 246 := ⟨by decide +kernel, rfl⟩
theorem dMO_entryFault_246 : decode b_MO_entryFault 246 = .ok (.i2l, 1) ∧ 246 + 1 = 247 := ⟨by decide +kernel, rfl⟩
theorem dMO_entryFault_247 : decode b_MO_entryFault 247 = .ok (.lmul, 1) ∧ 247 + 1 = 248 := ⟨by decide +kernel, rfl⟩
theorem dMO_entryFault_248 : decode b_MO_entryFault 248 = .ok (.invokestatic 281, 3) ∧ 248 + 3 = 251 := ⟨by decide +kernel, rfl⟩
theorem dMO_entryFault_251 : decode b_MO_entryFault 251 = .ok (.ifCond .eq (16), 3) ∧ 251 + 3 = 254 ∧ ((251 : Nat) : Int) + (16) = ((267 : Nat) : Int) := ⟨by decide +kernel, rfl, by decide⟩
theorem dMO_entryFault_254 : decode b_MO_entryFault 254 = .ok (.aload_n 0, 1) ∧ 254 + 1 = 255 := ⟨by decide +kernel, rfl⟩
theorem dMO_entryFault_255 : decode b_MO_entryFault 255 = .ok (.bipush (14), 2) ∧ 255 + 2 = 257 := ⟨by decide +kernel, rfl⟩
theorem dMO_entryFault_257 : decode b_MO_entryFault 257 = .ok (.aload_n 0, 1) ∧ 257 + 1 = 258 := ⟨by decide +kernel, rfl⟩
theorem dMO_entryFault_258 : decode b_MO_entryFault 258 = .ok (.iload_n 1, 1) ∧ 258 + 1 = 259 := ⟨by decide +kernel, rfl⟩
theorem dMO_entryFault_259 : decode b_MO_entryFault 259 = .ok (.iconst 4, 1) ∧ 259 + 1 = 260 := ⟨by decide +kernel, rfl⟩
theorem dMO_entryFault_260 : decode b_MO_entryFault 260 = .ok (.invokevirtual 257, 3) ∧ 260 + 3 = 263 := ⟨by decide +kernel, rfl⟩
theorem dMO_entryFault_263 : decode b_MO_entryFault 263 = .ok (.invokevirtual 264, 3) ∧ 263 + 3 = 266 := ⟨by decide +kernel, rfl⟩
theorem dMO_entryFault_266 : decode b_MO_entryFault 266 = .ok (.ireturn, 1) ∧ 266 + 1 = 267 := ⟨by decide +kernel, rfl⟩
theorem dMO_entryFault_267 : decode b_MO_entryFault 267 = .ok (.iconst 1, 1) ∧ 267 + 1 = 268 := ⟨by decide +kernel, rfl⟩
theorem dMO_entryFault_268 : decode b_MO_entryFault 268 = .ok (.istore 11, 2) ∧ 268 + 2 = 270 := ⟨by decide +kernel, rfl⟩
theorem dMO_entryFault_270 : decode b_MO_entryFault 270 = .ok (.iload 11, 2) ∧ 270 + 2 = 272 := ⟨by decide +kernel, rfl⟩
theorem dMO_entryFault_272 : decode b_MO_entryFault 272 = .ok (.iload_n 1, 1) ∧ 272 + 1 = 273 := ⟨by decide +kernel, rfl⟩
theorem dMO_entryFault_273 : decode b_MO_entryFault 273 = .ok (.if_icmp .ge (65), 3) ∧ 273 + 3 = 276 ∧ ((273 : Nat) : Int) + (65) = ((338 : Nat) : Int) := ⟨by decide +kernel, rfl, by decide⟩
theorem dMO_entryFault_276 : decode b_MO_entryFault 276 = .ok (.iload 8, 2) ∧ 276 + 2 = 278 := ⟨by decide +kernel, rfl⟩
theorem dMO_entryFault_278 : decode b_MO_entryFault 278 = .ok (.ifCond .eq (60), 3) ∧ 278 + 3 = 281 ∧ ((278 : Nat) : Int) + (60) = ((338 : Nat) : Int) := ⟨by decide +kernel, rfl, by decide⟩
theorem dMO_entryFault_281 : decode b_MO_entryFault 281 = .ok (.aload_n 0, 1) ∧ 281 + 1 = 282 := ⟨by decide +kernel, rfl⟩
theorem dMO_entryFault_282 : decode b_MO_entryFault 282 = .ok (.iload 11, 2) ∧ 282 + 2 = 284 := ⟨by decide +kernel, rfl⟩
theorem dMO_entryFault_284 : decode b_MO_entryFault 284 = .ok (.iconst 1, 1) ∧ 284 + 1 = 285 := ⟨by decide +kernel, rfl⟩
theorem dMO_entryFault_285 : decode b_MO_entryFault 285 = .ok (.invokevirtual 273, 3) ∧ 285 + 3 = 288 := ⟨by decide +kernel, rfl⟩
theorem dMO_entryFault_288 : decode b_MO_entryFault 288 = .ok (.ldc2_w 277, 3) ∧ 288 + 3 = 291 := ⟨by decide +kernel, rfl⟩
theorem dMO_entryFault_291 : decode b_MO_entryFault 291 = .ok (.lcmp, 1) ∧ 291 + 1 = 292 := ⟨by decide +kernel, rfl⟩
theorem dMO_entryFault_292 : decode b_MO_entryFault 292 = .ok (.ifCond .eq (40), 3) ∧ 292 + 3 = 295 ∧ ((292 : Nat) : Int) + (40) = ((332 : Nat) : Int) := ⟨by decide +kernel, rfl, by decide⟩
theorem dMO_entryFault_295 : decode b_MO_entryFault 295 = .ok (.lload 4, 2) ∧ 295 + 2 = 297 := ⟨by decide +kernel, rfl⟩
theorem dMO_entryFault_297 : decode b_MO_entryFault 297 = .ok (.lload 6, 2) ∧ 297 + 2 = 299 := ⟨by decide +kernel, rfl⟩
theorem dMO_entryFault_299 : decode b_MO_entryFault 299 = .ok (.aload_n 0, 1) ∧ 299 + 1 = 300 := ⟨by decide +kernel, rfl⟩
theorem dMO_entryFault_300 : decode b_MO_entryFault 300 = .ok (.iload 11, 2) ∧ 300 + 2 = 302 := ⟨by decide +kernel, rfl⟩
theorem dMO_entryFault_302 : decode b_MO_entryFault 302 = .ok (.iconst 4, 1) ∧ 302 + 1 = 303 := ⟨by decide +kernel, rfl⟩
theorem dMO_entryFault_303 : decode b_MO_entryFault 303 = .ok (.invokevirtual 273, 3) ∧ 303 + 3 = 306 := ⟨by decide +kernel, rfl⟩
theorem dMO_entryFault_306 : decode b_MO_entryFault 306 = .ok (.aload_n 0, 1) ∧ 306 + 1 = 307 := ⟨by decide +kernel, rfl⟩
theorem dMO_entryFault_307 : decode b_MO_entryFault 307 = .ok (.iload 11, 2) ∧ 307 + 2 = 309 := ⟨by decide +kernel, rfl⟩
theorem dMO_entryFault_309 : decode b_MO_entryFault 309 = .ok (.iconst 5, 1) ∧ 309 + 1 = 310 := ⟨by decide +kernel, rfl⟩
theorem dMO_entryFault_310 : decode b_MO_entryFault 310 = .ok (.invokevirtual 273, 3) ∧ 310 + 3 = 313 := ⟨by decide +kernel, rfl⟩
theorem dMO_entryFault_313 : decode b_MO_entryFault 313 = .ok (.invokestatic 281, 3) ∧ 313 + 3 = 316 := ⟨by decide +kernel, rfl⟩
theorem dMO_entryFault_316 : decode b_MO_entryFault 316 = .ok (.ifCond .eq (16), 3) ∧ 316 + 3 = 319 ∧ ((316 : Nat) : Int) + (16) = ((332 : Nat) : Int) := ⟨by decide +kernel, rfl, by decide⟩
theorem dMO_entryFault_319 : decode b_MO_entryFault 319 = .ok (.aload_n 0, 1) ∧ 319 + 1 = 320 := ⟨by decide +kernel, rfl⟩
theorem dMO_entryFault_320 : decode b_MO_entryFault 320 = .ok (.bipush (14), 2) ∧ 320 + 2 = 322 := ⟨by decide +kernel, rfl⟩
theorem dMO_entryFault_322 : decode b_MO_entryFault 322 = .ok (.aload_n 0, 1) ∧ 322 + 1 = 323 := ⟨by decide +kernel, rfl⟩
theorem dMO_entryFault_323 : decode b_MO_entryFault 323 = .ok (.iload_n 1, 1) ∧ 323 + 1 = 324 := ⟨by decide +kernel, rfl⟩
theorem dMO_entryFault_324 : decode b_MO_entryFault 324 = .ok (.iconst 4, 1) ∧ 324 + 1 = 325 := ⟨by decide +kernel, rfl⟩
theorem dMO_entryFault_325 : decode b_MO_entryFault 325 = .ok (.invokevirtual 257, 3) ∧ 325 + 3 = 328 := ⟨by decide +kernel, rfl⟩
theorem dMO_entryFault_328 : decode b_MO_entryFault 328 = .ok (.invokevirtual 264, 3) ∧ 328 + 3 = 331 := ⟨by decide +kernel, rfl⟩
theorem dMO_entryFault_331 : decode b_MO_entryFault 331 = .ok (.ireturn, 1) ∧ 331 + 1 = 332 := ⟨by decide +kernel, rfl⟩
theorem dMO_entryFault_332 : decode b_MO_entryFault 332 = .ok (.iinc 11 (1), 3) ∧ 332 + 3 = 335 := ⟨by decide +kernel, rfl⟩
theorem dMO_entryFault_335 : decode b_MO_entryFault 335 = .ok (.goto (-65), 3) ∧ 335 + 3 = 338 ∧ ((335 : Nat) : Int) + (-65) = ((270 : Nat) : Int) := ⟨by decide +kernel, rfl, by decide⟩
theorem dMO_entryFault_338 : decode b_MO_entryFault 338 = .ok (.iconst 0, 1) ∧ 338 + 1 = 339 := ⟨by decide +kernel, rfl⟩
theorem dMO_entryFault_339 : decode b_MO_entryFault 339 = .ok (.ireturn, 1) ∧ 339 + 1 = 340 := ⟨by decide +kernel, rfl⟩
