theorem dMO_lay_0 : decode b_MO_lay 0 = .ok (.bipush (52), 2) ∧ 0 + 2 = 2 := ⟨by decide +kernel, rfl⟩
theorem dMO_lay_2 : decode b_MO_lay 2 = .ok (.istore_n 1, 1) ∧ 2 + 1 = 3 := ⟨by decide +kernel, rfl⟩
theorem dMO_lay_3 : decode b_MO_lay 3 = .ok (.iconst 0, 1) ∧ 3 + 1 = 4 := ⟨by decide +kernel, rfl⟩
theorem dMO_lay_4 : decode b_MO_lay 4 = .ok (.istore_n 2, 1) ∧ 4 + 1 = 5 := ⟨by decide +kernel, rfl⟩
theorem dMO_lay_5 : decode b_MO_lay 5 = .ok (.iload_n 2, 1) ∧ 5 + 1 = 6 := ⟨by decide +kernel, rfl⟩
theorem dMO_lay_6 : decode b_MO_lay 6 = .ok (.iconst 3, 1) ∧ 6 + 1 = 7 := ⟨by decide +kernel, rfl⟩
theorem dMO_lay_7 : decode b_MO_lay 7 = .ok (.if_icmp .ge (48), 3) ∧ 7 + 3 = 10 ∧ ((7 : Nat) : Int) + (48) = ((55 : Nat) : Int) := ⟨by decide +kernel, rfl, by decide⟩
theorem dMO_lay_10 : decode b_MO_lay 10 = .ok (.iload_n 1, 1) ∧ 10 + 1 = 11 := ⟨by decide +kernel, rfl⟩
theorem dMO_lay_11 : decode b_MO_lay 11 = .ok (.aload_n 0, 1) ∧ 11 + 1 = 12 := ⟨by decide +kernel, rfl⟩
theorem dMO_lay_12 : decode b_MO_lay 12 = .ok (.getfield 16, 3) ∧ 12 + 3 = 15 := ⟨by decide +kernel, rfl⟩
theorem dMO_lay_15 : decode b_MO_lay 15 = .ok (.iload_n 2, 1) ∧ 15 + 1 = 16 := ⟨by decide +kernel, rfl⟩
theorem dMO_lay_16 : decode b_MO_lay 16 = .ok (.iaload, 1) ∧ 16 + 1 = 17 := ⟨by decide +kernel, rfl⟩
theorem dMO_lay_17 : decode b_MO_lay 17 = .ok (.invokestatic 182, 3) ∧ 17 + 3 = 20 := ⟨by decide +kernel, rfl⟩
theorem dMO_lay_20 : decode b_MO_lay 20 = .ok (.istore_n 1, 1) ∧ 20 + 1 = 21 := ⟨by decide +kernel, rfl⟩
theorem dMO_lay_21 : decode b_MO_lay 21 = .ok (.aload_n 0, 1) ∧ 21 + 1 = 22 := ⟨by decide +kernel, rfl⟩
theorem dMO_lay_22 : decode b_MO_lay 22 = .ok (.getfield 83, 3) ∧ 22 + 3 = 25 := ⟨by decide +kernel, rfl⟩
theorem dMO_lay_25 : decode b_MO_lay 25 = .ok (.iload_n 2, 1) ∧ 25 + 1 = 26 := ⟨by decide +kernel, rfl⟩
theorem dMO_lay_26 : decode b_MO_lay 26 = .ok (.iload_n 1, 1) ∧ 26 + 1 = 27 := ⟨by decide +kernel, rfl⟩
theorem dMO_lay_27 : decode b_MO_lay 27 = .ok (.iastore, 1) ∧ 27 + 1 = 28 := ⟨by decide +kernel, rfl⟩
theorem dMO_lay_28 : decode b_MO_lay 28 = .ok (.aload_n 0, 1) ∧ 28 + 1 = 29 := ⟨by decide +kernel, rfl⟩
theorem dMO_lay_29 : decode b_MO_lay 29 = .ok (.getfield 86, 3) ∧ 29 + 3 = 32 := ⟨by decide +kernel, rfl⟩
theorem dMO_lay_32 : decode b_MO_lay 32 = .ok (.iload_n 2, 1) ∧ 32 + 1 = 33 := ⟨by decide +kernel, rfl⟩
theorem dMO_lay_33 : decode b_MO_lay 33 = .ok (.aload_n 0, 1) ∧ 33 + 1 = 34 := ⟨by decide +kernel, rfl⟩
theorem dMO_lay_34 : decode b_MO_lay 34 = .ok (.getfield 13, 3) ∧ 34 + 3 = 37 := ⟨by decide +kernel, rfl⟩
theorem dMO_lay_37 : decode b_MO_lay 37 = .ok (.iload_n 2, 1) ∧ 37 + 1 = 38 := ⟨by decide +kernel, rfl⟩
theorem dMO_lay_38 : decode b_MO_lay 38 = .ok (.iaload, 1) ∧ 38 + 1 = 39 := ⟨by decide +kernel, rfl⟩
theorem dMO_lay_39 : decode b_MO_lay 39 = .ok (.iastore, 1) ∧ 39 + 1 = 40 := ⟨by decide +kernel, rfl⟩
theorem dMO_lay_40 : decode b_MO_lay 40 = .ok (.iload_n 1, 1) ∧ 40 + 1 = 41 := ⟨by decide +kernel, rfl⟩
theorem dMO_lay_41 : decode b_MO_lay 41 = .ok (.aload_n 0, 1) ∧ 41 + 1 = 42 := ⟨by decide +kernel, rfl⟩
theorem dMO_lay_42 : decode b_MO_lay 42 = .ok (.getfield 13, 3) ∧ 42 + 3 = 45 := ⟨by decide +kernel, rfl⟩
theorem dMO_lay_45 : decode b_MO_lay 45 = .ok (.iload_n 2, 1) ∧ 45 + 1 = 46 := ⟨by decide +kernel, rfl⟩
theorem dMO_lay_46 : decode b_MO_lay 46 = .ok (.iaload, 1) ∧ 46 + 1 = 47 := ⟨by decide +kernel, rfl⟩
theorem dMO_lay_47 : decode b_MO_lay 47 = .ok (.iadd, 1) ∧ 47 + 1 = 48 := ⟨by decide +kernel, rfl⟩
theorem dMO_lay_48 : decode b_MO_lay 48 = .ok (.istore_n 1, 1) ∧ 48 + 1 = 49 := ⟨by decide +kernel, rfl⟩
theorem dMO_lay_49 : decode b_MO_lay 49 = .ok (.iinc 2 (1), 3) ∧ 49 + 3 = 52 := ⟨by decide +kernel, rfl⟩
theorem dMO_lay_52 : decode b_MO_lay 52 = .ok (.goto (-47), 3) ∧ 52 + 3 = 55 ∧ ((52 : Nat) : Int) + (-47) = ((5 : Nat) : Int) := ⟨by decide +kernel, rfl, by decide⟩
theorem dMO_lay_55 : decode b_MO_lay 55 = .ok (.aload_n 0, 1) ∧ 55 + 1 = 56 := ⟨by decide +kernel, rfl⟩
theorem dMO_lay_56 : decode b_MO_lay 56 = .ok (.getfield 83, 3) ∧ 56 + 3 = 59 := ⟨by decide +kernel, rfl⟩
theorem dMO_lay_59 : decode b_MO_lay 59 = .ok (.iconst 3, 1) ∧ 59 + 1 = 60 := ⟨by decide +kernel, rfl⟩
theorem dMO_lay_60 : decode b_MO_lay 60 = .ok (.iload_n 1, 1) ∧ 60 + 1 = 61 := ⟨by decide +kernel, rfl⟩
theorem dMO_lay_61 : decode b_MO_lay 61 = .ok (.iastore, 1) ∧ 61 + 1 = 62 := ⟨by decide +kernel, rfl⟩
theorem dMO_lay_62 : decode b_MO_lay 62 = .ok (.aload_n 0, 1) ∧ 62 + 1 = 63 := ⟨by decide +kernel, rfl⟩
theorem dMO_lay_63 : decode b_MO_lay 63 = .ok (.getfield 86, 3) ∧ 63 + 3 = 66 := ⟨by decide +kernel, rfl⟩
theorem dMO_lay_66 : decode b_MO_lay 66 = .ok (.iconst 3, 1) ∧ 66 + 1 = 67 := ⟨by decide +kernel, rfl⟩
theorem dMO_lay_67 : decode b_MO_lay 67 = .ok (.aload_n 0, 1) ∧ 67 + 1 = 68 := ⟨by decide +kernel, rfl⟩
theorem dMO_lay_68 : decode b_MO_lay 68 = .ok (.getfield 13, 3) ∧ 68 + 3 = 71 := ⟨by decide +kernel, rfl⟩
theorem dMO_lay_71 : decode b_MO_lay 71 = .ok (.iconst 3, 1) ∧ 71 + 1 = 72 := ⟨by decide +kernel, rfl⟩
theorem dMO_lay_72 : decode b_MO_lay 72 = .ok (.iaload, 1) ∧ 72 + 1 = 73 := ⟨by decide +kernel, rfl⟩
theorem dMO_lay_73 : decode b_MO_lay 73 = .ok (.iastore, 1) ∧ 73 + 1 = 74 := ⟨by decide +kernel, rfl⟩
theorem dMO_lay_74 : decode b_MO_lay 74 = .ok (.aload_n 0, 1) ∧ 74 + 1 = 75 := ⟨by decide +kernel, rfl⟩
theorem dMO_lay_75 : decode b_MO_lay 75 = .ok (.getfield 86, 3) ∧ 75 + 3 = 78 := ⟨by decide +kernel, rfl⟩
theorem dMO_lay_78 : decode b_MO_lay 78 = .ok (.iconst 4, 1) ∧ 78 + 1 = 79 := ⟨by decide +kernel, rfl⟩
theorem dMO_lay_79 : decode b_MO_lay 79 = .ok (.iconst 2, 1) ∧ 79 + 1 = 80 := ⟨by decide +kernel, rfl⟩
theorem dMO_lay_80 : decode b_MO_lay 80 = .ok (.aload_n 0, 1) ∧ 80 + 1 = 81 := ⟨by decide +kernel, rfl⟩
theorem dMO_lay_81 : decode b_MO_lay 81 = .ok (.getfield 22, 3) ∧ 81 + 3 = 84 := ⟨by decide +kernel, rfl⟩
theorem dMO_lay_84 : decode b_MO_lay 84 = .ok (.iconst 0, 1) ∧ 84 + 1 = 85 := ⟨by decide +kernel, rfl⟩
theorem dMO_lay_85 : decode b_MO_lay 85 = .ok (.iaload, 1) ∧ 85 + 1 = 86 := ⟨by decide +kernel, rfl⟩
theorem dMO_lay_86 : decode b_MO_lay 86 = .ok (.imul, 1) ∧ 86 + 1 = 87 := ⟨by decide +kernel, rfl⟩
theorem dMO_lay_87 : decode b_MO_lay 87 = .ok (.iastore, 1) ∧ 87 + 1 = 88 := ⟨by decide +kernel, rfl⟩
theorem dMO_lay_88 : decode b_MO_lay 88 = .ok (.iconst 0, 1) ∧ 88 + 1 = 89 := ⟨by decide +kernel, rfl⟩
theorem dMO_lay_89 : decode b_MO_lay 89 = .ok (.istore_n 2, 1) ∧ 89 + 1 = 90 := ⟨by decide +kernel, rfl⟩
theorem dMO_lay_90 : decode b_MO_lay 90 = .ok (.iload_n 2, 1) ∧ 90 + 1 = 91 := ⟨by decide +kernel, rfl⟩
theorem dMO_lay_91 : decode b_MO_lay 91 = .ok (.iconst 3, 1) ∧ 91 + 1 = 92 := ⟨by decide +kernel, rfl⟩
theorem dMO_lay_92 : decode b_MO_lay 92 = .ok (.if_icmp .ge (25), 3) ∧ 92 + 3 = 95 ∧ ((92 : Nat) : Int) + (25) = ((117 : Nat) : Int) := ⟨by decide +kernel, rfl, by decide⟩
theorem dMO_lay_95 : decode b_MO_lay 95 = .ok (.aload_n 0, 1) ∧ 95 + 1 = 96 := ⟨by decide +kernel, rfl⟩
theorem dMO_lay_96 : decode b_MO_lay 96 = .ok (.getfield 86, 3) ∧ 96 + 3 = 99 := ⟨by decide +kernel, rfl⟩
theorem dMO_lay_99 : decode b_MO_lay 99 = .ok (.iconst 5, 1) ∧ 99 + 1 = 100 := ⟨by decide +kernel, rfl⟩
theorem dMO_lay_100 : decode b_MO_lay 100 = .ok (.iload_n 2, 1) ∧ 100 + 1 = 101 := ⟨by decide +kernel, rfl⟩
theorem dMO_lay_101 : decode b_MO_lay 101 = .ok (.iadd, 1) ∧ 101 + 1 = 102 := ⟨by decide +kernel, rfl⟩
theorem dMO_lay_102 : decode b_MO_lay 102 = .ok (.bipush (12), 2) ∧ 102 + 2 = 104 := ⟨by decide +kernel, rfl⟩
theorem dMO_lay_104 : decode b_MO_lay 104 = .ok (.aload_n 0, 1) ∧ 104 + 1 = 105 := ⟨by decide +kernel, rfl⟩
theorem dMO_lay_105 : decode b_MO_lay 105 = .ok (.iload_n 2, 1) ∧ 105 + 1 = 106 := ⟨by decide +kernel, rfl⟩
theorem dMO_lay_106 : decode b_MO_lay 106 = .ok (.invokevirtual 185, 3) ∧ 106 + 3 = 109 := ⟨by decide +kernel, rfl⟩
theorem dMO_lay_109 : decode b_MO_lay 109 = .ok (.imul, 1) ∧ 109 + 1 = 110 := ⟨by decide +kernel, rfl⟩
theorem dMO_lay_110 : decode b_MO_lay 110 = .ok (.iastore, 1) ∧ 110 + 1 = 111 := ⟨by decide +kernel, rfl⟩
theorem dMO_lay_111 : decode b_MO_lay 111 = .ok (.iinc 2 (1), 3) ∧ 111 + 3 = 114 := ⟨by decide +kernel, rfl⟩
theorem dMO_lay_114 : decode b_MO_lay 114 = .ok (.goto (-24), 3) ∧ 114 + 3 = 117 ∧ ((114 : Nat) : Int) + (-24) = ((90 : Nat) : Int) := ⟨by decide +kernel, rfl, by decide⟩
theorem dMO_lay_117 : decode b_MO_lay 117 = .ok (.aload_n 0, 1) ∧ 117 + 1 = 118 := ⟨by decide +kernel, rfl⟩
theorem dMO_lay_118 : decode b_MO_lay 118 = .ok (.getfield 86, 3) ∧ 118 + 3 = 121 := ⟨by decide +kernel, rfl⟩
theorem dMO_lay_121 : decode b_MO_lay 121 = .ok (.bipush (8), 2) ∧ 121 + 2 = 123 := ⟨by decide +kernel, rfl⟩
theorem dMO_lay_123 : decode b_MO_lay 123 = .ok (.bipush (16), 2) ∧ 123 + 2 = 125 := ⟨by decide +kernel, rfl⟩
theorem dMO_lay_125 : decode b_MO_lay 125 = .ok (.bipush (16), 2) ∧ 125 + 2 = 127 := ⟨by decide +kernel, rfl⟩
theorem dMO_lay_127 : decode b_MO_lay 127 = .ok (.aload_n 0, 1) ∧ 127 + 1 = 128 := ⟨by decide +kernel, rfl⟩
theorem dMO_lay_128 : decode b_MO_lay 128 = .ok (.getfield 46, 3) ∧ 128 + 3 = 131 := ⟨by decide +kernel, rfl⟩
theorem dMO_lay_131 : decode b_MO_lay 131 = .ok (.iconst 0, 1) ∧ 131 + 1 = 132 := ⟨by decide +kernel, rfl⟩
theorem dMO_lay_132 : decode b_MO_lay 132 = .ok (.iaload, 1) ∧ 132 + 1 = 133 := ⟨by decide +kernel, rfl⟩
theorem dMO_lay_133 : decode b_MO_lay 133 = .ok (.imul, 1) ∧ 133 + 1 = 134 := ⟨by decide +kernel, rfl⟩
theorem dMO_lay_134 : decode b_MO_lay 134 = .ok (.iadd, 1) ∧ 134 + 1 = 135 := ⟨by decide +kernel, rfl⟩
theorem dMO_lay_135 : decode b_MO_lay 135 = .ok (.iastore, 1) ∧ 135 + 1 = 136 := ⟨by decide +kernel, rfl⟩
theorem dMO_lay_136 : decode b_MO_lay 136 = .ok (.aload_n 0, 1) ∧ 136 + 1 = 137 := ⟨by decide +kernel, rfl⟩
theorem dMO_lay_137 : decode b_MO_lay 137 = .ok (.invokevirtual 189, 3) ∧ 137 + 3 = 140 := ⟨by decide +kernel, rfl⟩
theorem dMO_lay_140 : decode b_MO_lay 140 = .ok (.istore_n 2, 1) ∧ 140 + 1 = 141 := ⟨by decide +kernel, rfl⟩
theorem dMO_lay_141 : decode b_MO_lay 141 = .ok (.aload_n 0, 1) ∧ 141 + 1 = 142 := ⟨by decide +kernel, rfl⟩
theorem dMO_lay_142 : decode b_MO_lay 142 = .ok (.getfield 86, 3) ∧ 142 + 3 = 145 := ⟨by decide +kernel, rfl⟩
theorem dMO_lay_145 : decode b_MO_lay 145 = .ok (.bipush (9), 2) ∧ 145 + 2 = 147 := ⟨by decide +kernel, rfl⟩
theorem dMO_lay_147 : decode b_MO_lay 147 = .ok (.aload_n 0, 1) ∧ 147 + 1 = 148 := ⟨by decide +kernel, rfl⟩
theorem dMO_lay_148 : decode b_MO_lay 148 = .ok (.invokevirtual 192, 3) ∧ 148 + 3 = 151 := ⟨by decide +kernel, rfl⟩
theorem dMO_lay_151 : decode b_MO_lay 151 = .ok (.iastore, 1) ∧ 151 + 1 = 152 := ⟨by decide +kernel, rfl⟩
theorem dMO_lay_152 : decode b_MO_lay 152 = .ok (.aload_n 0, 1) ∧ 152 + 1 = 153 := ⟨by decide +kernel, rfl⟩
theorem dMO_lay_153 : decode b_MO_lay 153 = .ok (.iconst 1, 1) ∧ 153 + 1 = 154 := ⟨by decide +kernel, rfl⟩
theorem dMO_lay_154 : decode b_MO_lay 154 = .ok (.putfield 195, 3) ∧ 154 + 3 = 157 := ⟨by decide +kernel, rfl⟩
theorem dMO_lay_157 : decode b_MO_lay 157 = .ok (.iconst 0, 1) ∧ 157 + 1 = 158 := ⟨by decide +kernel, rfl⟩
theorem dMO_lay_158 : decode b_MO_lay 158 = .ok (.istore_n 3, 1) ∧ 158 + 1 = 159 := ⟨by decide +kernel, rfl⟩
theorem dMO_lay_159 : decode b_MO_lay 159 = .ok (.iload_n 3, 1) ∧ 159 + 1 = 160 := ⟨by decide +kernel, rfl⟩
theorem dMO_lay_160 : decode b_MO_lay 160 = .ok (.bipush (11), 2) ∧ 160 + 2 = 162 := ⟨by decide +kernel, rfl⟩
theorem dMO_lay_162 : decode b_MO_lay 162 = .ok (.if_icmp .ge (74), 3) ∧ 162 + 3 = 165 ∧ ((162 : Nat) : Int) + (74) = ((236 : Nat) : Int) := ⟨by decide +kernel, rfl, by decide⟩
theorem dMO_lay_165 : decode b_MO_lay 165 = .ok (.iload_n 3, 1) ∧ 165 + 1 = 166 := ⟨by decide +kernel, rfl⟩
theorem dMO_lay_166 : decode b_MO_lay 166 = .ok (.iconst 4, 1) ∧ 166 + 1 = 167 := ⟨by decide +kernel, rfl⟩
theorem dMO_lay_167 : decode b_MO_lay 167 = .ok (.if_icmp .lt (18), 3) ∧ 167 + 3 = 170 ∧ ((167 : Nat) : Int) + (18) = ((185 : Nat) : Int) := ⟨by decide +kernel, rfl, by decide⟩
theorem dMO_lay_170 : decode b_MO_lay 170 = .ok (.iload_n 3, 1) ∧ 170 + 1 = 171 := ⟨by decide +kernel, rfl⟩
theorem dMO_lay_171 : decode b_MO_lay 171 = .ok (.bipush (8), 2) ∧ 171 + 2 = 173 := ⟨by decide +kernel, rfl⟩
theorem dMO_lay_173 : decode b_MO_lay 173 = .ok (.if_icmp .ge (12), 3) ∧ 173 + 3 = 176 ∧ ((173 : Nat) : Int) + (12) = ((185 : Nat) : Int) := ⟨by decide +kernel, rfl, by decide⟩
theorem dMO_lay_176 : decode b_MO_lay 176 = .ok (.aload_n 0, 1) ∧ 176 + 1 = 177 := ⟨by decide +kernel, rfl⟩
theorem dMO_lay_177 : decode b_MO_lay 177 = .ok (.getfield 86, 3) ∧ 177 + 3 = 180 := ⟨by decide +kernel, rfl⟩
theorem dMO_lay_180 : decode b_MO_lay 180 = .ok (.iload_n 3, 1) ∧ 180 + 1 = 181 := ⟨by decide +kernel, rfl⟩
theorem dMO_lay_181 : decode b_MO_lay 181 = .ok (.iaload, 1) ∧ 181 + 1 = 182 := ⟨by decide +kernel, rfl⟩
theorem dMO_lay_182 : decode b_MO_lay 182 = .ok (.ifCond .le (7), 3) ∧ 182 + 3 = 185 ∧ ((182 : Nat) : Int) + (7) = ((189 : Nat) : Int) := ⟨by decide +kernel, rfl, by decide⟩
theorem dMO_lay_185 : decode b_MO_lay 185 = .ok (.iconst 1, 1) ∧ 185 + 1 = 186 := ⟨by decide +kernel, rfl⟩
theorem dMO_lay_186 : decode b_MO_lay 186 = .ok (.goto (4), 3) ∧ 186 + 3 = 189 ∧ ((186 : Nat) : Int) + (4) = ((190 : Nat) : Int) := ⟨by decide +kernel, rfl, by decide⟩
theorem dMO_lay_189 : decode b_MO_lay 189 = .ok (.iconst 0, 1) ∧ 189 + 1 = 190 := ⟨by decide +kernel, rfl⟩
theorem dMO_lay_190 : decode b_MO_lay 190 = .ok (.istore 4, 2) ∧ 190 + 2 = 192 := ⟨by decide +kernel, rfl⟩
theorem dMO_lay_192 : decode b_MO_lay 192 = .ok (.aload_n 0, 1) ∧ 192 + 1 = 193 := ⟨by decide +kernel, rfl⟩
theorem dMO_lay_193 : decode b_MO_lay 193 = .ok (.getfield 89, 3) ∧ 193 + 3 = 196 := ⟨by decide +kernel, rfl⟩
theorem dMO_lay_196 : decode b_MO_lay 196 = .ok (.iload_n 3, 1) ∧ 196 + 1 = 197 := ⟨by decide +kernel, rfl⟩
theorem dMO_lay_197 : decode b_MO_lay 197 = .ok (.iload 4, 2) ∧ 197 + 2 = 199 := ⟨by decide +kernel, rfl⟩
theorem dMO_lay_199 : decode b_MO_lay 199 = .ok (.ifCond .eq (10), 3) ∧ 199 + 3 = 202 ∧ ((199 : Nat) : Int) + (10) = ((209 : Nat) : Int) := ⟨by decide +kernel, rfl, by decide⟩
theorem dMO_lay_202 : decode b_MO_lay 202 = .ok (.aload_n 0, 1) ∧ 202 + 1 = 203 := ⟨by decide +kernel, rfl⟩
theorem dMO_lay_203 : decode b_MO_lay 203 = .ok (.getfield 195, 3) ∧ 203 + 3 = 206 := ⟨by decide +kernel, rfl⟩
theorem dMO_lay_206 : decode b_MO_lay 206 = .ok (.goto (4), 3) ∧ 206 + 3 = 209 ∧ ((206 : Nat) : Int) + (4) = ((210 : Nat) : Int) := ⟨by decide +kernel, rfl, by decide⟩
theorem dMO_lay_209 : decode b_MO_lay 209 = .ok (.iconst 0, 1) ∧ 209 + 1 = 210 := ⟨by decide +kernel, rfl⟩
theorem dMO_lay_210 : decode b_MO_lay 210 = .ok (.iastore, 1) ∧ 210 + 1 = 211 := ⟨by decide +kernel, rfl⟩
theorem dMO_lay_211 : decode b_MO_lay 211 = .ok (.aload_n 0, 1) ∧ 211 + 1 = 212 := ⟨by decide +kernel, rfl⟩
theorem dMO_lay_212 : decode b_MO_lay 212 = .ok (.dup, 1) ∧ 212 + 1 = 213 := ⟨by decide +kernel, rfl⟩
theorem dMO_lay_213 : decode b_MO_lay 213 = .ok (.getfield 195, 3) ∧ 213 + 3 = 216 := ⟨by decide +kernel, rfl⟩
theorem dMO_lay_216 : decode b_MO_lay 216 = .ok (.iload 4, 2) ∧ 216 + 2 = 218 := ⟨by decide +kernel, rfl⟩
theorem dMO_lay_218 : decode b_MO_lay 218 = .ok (.ifCond .eq (7), 3) ∧ 218 + 3 = 221 ∧ ((218 : Nat) : Int) + (7) = ((225 : Nat) : Int) := ⟨by decide +kernel, rfl, by decide⟩
theorem dMO_lay_221 : decode b_MO_lay 221 = .ok (.iconst 1, 1) ∧ 221 + 1 = 222 := ⟨by decide +kernel, rfl⟩
theorem dMO_lay_222 : decode b_MO_lay 222 = .ok (.goto (4), 3) ∧ 222 + 3 = 225 ∧ ((222 : Nat) : Int) + (4) = ((226 : Nat) : Int) := ⟨by decide +kernel, rfl, by decide⟩
theorem dMO_lay_225 : decode b_MO_lay 225 = .ok (.iconst 0, 1) ∧ 225 + 1 = 226 := ⟨by decide +kernel, rfl⟩
theorem dMO_lay_226 : decode b_MO_lay 226 = .ok (.iadd, 1) ∧ 226 + 1 = 227 := ⟨by decide +kernel, rfl⟩
theorem dMO_lay_227 : decode b_MO_lay 227 = .ok (.putfield 195, 3) ∧ 227 + 3 = 230 := ⟨by decide +kernel, rfl⟩
theorem dMO_lay_230 : decode b_MO_lay 230 = .ok (.iinc 3 (1), 3) ∧ 230 + 3 = 233 := ⟨by decide +kernel, rfl⟩
theorem dMO_lay_233 : decode b_MO_lay 233 = .ok (.goto (-74), 3) ∧ 233 + 3 = 236 ∧ ((233 : Nat) : Int) + (-74) = ((159 : Nat) : Int) := ⟨by decide +kernel, rfl, by decide⟩
theorem dMO_lay_236 : decode b_MO_lay 236 = .ok (.aload_n 0, 1) ∧ 236 + 1 = 237 := ⟨by decide +kernel, rfl⟩
theorem dMO_lay_237 : decode b_MO_lay 237 = .ok (.getfield 86, 3) ∧ 237 + 3 = 240 := ⟨by decide +kernel, rfl⟩
theorem dMO_lay_240 : decode b_MO_lay 240 = .ok (.bipush (10), 2) ∧ 240 + 2 = 242 := ⟨by decide +kernel, rfl⟩
theorem dMO_lay_242 : decode b_MO_lay 242 = .ok (.aload_n 0, 1) ∧ 242 + 1 = 243 := ⟨by decide +kernel, rfl⟩
theorem dMO_lay_243 : decode b_MO_lay 243 = .ok (.invokevirtual 198, 3) ∧ 243 + 3 = 246 := ⟨by decide +kernel, rfl⟩
theorem dMO_lay_246 : decode b_MO_lay 246 = .ok (.iastore, 1) ∧ 246 + 1 = 247 := ⟨by decide +kernel, rfl⟩
theorem dMO_lay_247 : decode b_MO_lay 247 = .ok (.iconst 4, 1) ∧ 247 + 1 = 248 := ⟨by decide +kernel, rfl⟩
theorem dMO_lay_248 : decode b_MO_lay 248 = .ok (.istore_n 3, 1) ∧ 248 + 1 = 249 := ⟨by decide +kernel, rfl⟩
theorem dMO_lay_249 : decode b_MO_lay 249 = .ok (.iload_n 3, 1) ∧ 249 + 1 = 250 := ⟨by decide +kernel, rfl⟩
theorem dMO_lay_250 : decode b_MO_lay 250 = .ok (.bipush (11), 2) ∧ 250 + 2 = 252 := ⟨by decide +kernel, rfl⟩
theorem dMO_lay_252 : decode b_MO_lay 252 = .ok (.if_icmp .ge (66), 3) ∧ 252 + 3 = 255 ∧ ((252 : Nat) : Int) + (66) = ((318 : Nat) : Int) := ⟨by decide +kernel, rfl, by decide⟩
theorem dMO_lay_255 : decode b_MO_lay 255 = .ok (.aload_n 0, 1) ∧ 255 + 1 = 256 := ⟨by decide +kernel, rfl⟩
theorem dMO_lay_256 : decode b_MO_lay 256 = .ok (.getfield 89, 3) ∧ 256 + 3 = 259 := ⟨by decide +kernel, rfl⟩
theorem dMO_lay_259 : decode b_MO_lay 259 = .ok (.iload_n 3, 1) ∧ 259 + 1 = 260 := ⟨by decide +kernel, rfl⟩
theorem dMO_lay_260 : decode b_MO_lay 260 = .ok (.iaload, 1) ∧ 260 + 1 = 261 := ⟨by decide +kernel, rfl⟩
theorem dMO_lay_261 : decode b_MO_lay 261 = .ok (.ifCond .ne (6), 3) ∧ 261 + 3 = 264 ∧ ((261 : Nat) : Int) + (6) = ((267 : Nat) : Int) := ⟨by decide +kernel, rfl, by decide⟩
theorem dMO_lay_264 : decode b_MO_lay 264 = .ok (.goto (48), 3) ∧ 264 + 3 = 267 ∧ ((264 : Nat) : Int) + (48) = ((312 : Nat) : Int) := ⟨by decide +kernel, rfl, by decide⟩
theorem dMO_lay_267 : decode b_MO_lay 267 = .ok (.iload_n 3, 1) ∧ 267 + 1 = 268 := ⟨by decide +kernel, rfl⟩
theorem dMO_lay_268 : decode b_MO_lay 268 = .ok (.iconst 4, 1) ∧ 268 + 1 = 269 := ⟨by decide +kernel, rfl⟩
theorem dMO_lay_269 : decode b_MO_lay 269 = .ok (.if_icmp .ne (11), 3) ∧ 269 + 3 = 272 ∧ ((269 : Nat) : Int) + (11) = ((280 : Nat) : Int) := ⟨by decide +kernel, rfl, by decide⟩
theorem dMO_lay_272 : decode b_MO_lay 272 = .ok (.iload_n 1, 1) ∧ 272 + 1 = 273 := ⟨by decide +kernel, rfl⟩
theorem dMO_lay_273 : decode b_MO_lay 273 = .ok (.iconst 2, 1) ∧ 273 + 1 = 274 := ⟨by decide +kernel, rfl⟩
theorem dMO_lay_274 : decode b_MO_lay 274 = .ok (.invokestatic 182, 3) ∧ 274 + 3 = 277 := ⟨by decide +kernel, rfl⟩
theorem dMO_lay_277 : decode b_MO_lay 277 = .ok (.goto (18), 3) ∧ 277 + 3 = 280 ∧ ((277 : Nat) : Int) + (18) = ((295 : Nat) : Int) := ⟨by decide +kernel, rfl, by decide⟩
theorem dMO_lay_280 : decode b_MO_lay 280 = .ok (.iload_n 3, 1) ∧ 280 + 1 = 281 := ⟨by decide +kernel, rfl⟩
theorem dMO_lay_281 : decode b_MO_lay 281 = .ok (.bipush (9), 2) ∧ 281 + 2 = 283 := ⟨by decide +kernel, rfl⟩
theorem dMO_lay_283 : decode b_MO_lay 283 = .ok (.if_icmp .ge (11), 3) ∧ 283 + 3 = 286 ∧ ((283 : Nat) : Int) + (11) = ((294 : Nat) : Int) := ⟨by decide +kernel, rfl, by decide⟩
theorem dMO_lay_286 : decode b_MO_lay 286 = .ok (.iload_n 1, 1) ∧ 286 + 1 = 287 := ⟨by decide +kernel, rfl⟩
theorem dMO_lay_287 : decode b_MO_lay 287 = .ok (.iconst 4, 1) ∧ 287 + 1 = 288 := ⟨by decide +kernel, rfl⟩
theorem dMO_lay_288 : decode b_MO_lay 288 = .ok (.invokestatic 182, 3) ∧ 288 + 3 = 291 := ⟨by decide +kernel, rfl⟩
theorem dMO_lay_291 : decode b_MO_lay 291 = .ok (.goto (4), 3) ∧ 291 + 3 = 294 ∧ ((291 : Nat) : Int) + (4) = ((295 : Nat) : Int) := ⟨by decide +kernel, rfl, by decide⟩
theorem dMO_lay_294 : decode b_MO_lay 294 = .ok (.iload_n 1, 1) ∧ 294 + 1 = 295 := ⟨by decide +kernel, rfl⟩
theorem dMO_lay_295 : decode b_MO_lay 295 = .ok (.istore_n 1, 1) ∧ 295 + 1 = 296 := ⟨by decide +kernel, rfl⟩
theorem dMO_lay_296 : decode b_MO_lay 296 = .ok (.aload_n 0, 1) ∧ 296 + 1 = 297 := ⟨by decide +kernel, rfl⟩
theorem dMO_lay_297 : decode b_MO_lay 297 = .ok (.getfield 83, 3) ∧ 297 + 3 = 300 := ⟨by decide +kernel, rfl⟩
theorem dMO_lay_300 : decode b_MO_lay 300 = .ok (.iload_n 3, 1) ∧ 300 + 1 = 301 := ⟨by decide +kernel, rfl⟩
theorem dMO_lay_301 : decode b_MO_lay 301 = .ok (.iload_n 1, 1) ∧ 301 + 1 = 302 := ⟨by decide +kernel, rfl⟩
theorem dMO_lay_302 : decode b_MO_lay 302 = .ok (.iastore, 1) ∧ 302 + 1 = 303 := ⟨by decide +kernel, rfl⟩
theorem dMO_lay_303 : decode b_MO_lay 303 = .ok (.iload_n 1, 1) ∧ 303 + 1 = 304 := ⟨by decide +kernel, rfl⟩
theorem dMO_lay_304 : decode b_MO_lay 304 = .ok (.aload_n 0, 1) ∧ 304 + 1 = 305 := ⟨by decide +kernel, rfl⟩
theorem dMO_lay_305 : decode b_MO_lay 305 = .ok (.getfield 86, 3) ∧ 305 + 3 = 308 := ⟨by decide +kernel, rfl⟩
theorem dMO_lay_308 : decode b_MO_lay 308 = .ok (.iload_n 3, 1) ∧ 308 + 1 = 309 := ⟨by decide +kernel, rfl⟩
theorem dMO_lay_309 : decode b_MO_lay 309 = .ok (.iaload, 1) ∧ 309 + 1 = 310 := ⟨by decide +kernel, rfl⟩
theorem dMO_lay_310 : decode b_MO_lay 310 = .ok (.iadd, 1) ∧ 310 + 1 = 311 := ⟨by decide +kernel, rfl⟩
theorem dMO_lay_311 : decode b_MO_lay 311 = .ok (.istore_n 1, 1) ∧ 311 + 1 = 312 := ⟨by decide +kernel, rfl⟩
theorem dMO_lay_312 : decode b_MO_lay 312 = .ok (.iinc 3 (1), 3) ∧ 312 + 3 = 315 := ⟨by decide +kernel, rfl⟩
theorem dMO_lay_315 : decode b_MO_lay 315 = .ok (.goto (-66), 3) ∧ 315 + 3 = 318 ∧ ((315 : Nat) : Int) + (-66) = ((249 : Nat) : Int) := ⟨by decide +kernel, rfl, by decide⟩
theorem dMO_lay_318 : decode b_MO_lay 318 = .ok (.iload_n 1, 1) ∧ 318 + 1 = 319 := ⟨by decide +kernel, rfl⟩
theorem dMO_lay_319 : decode b_MO_lay 319 = .ok (.iconst 4, 1) ∧ 319 + 1 = 320 := ⟨by decide +kernel, rfl⟩
theorem dMO_lay_320 : decode b_MO_lay 320 = .ok (.invokestatic 182, 3) ∧ 320 + 3 = 323 := ⟨by decide +kernel, rfl⟩
theorem dMO_lay_323 : decode b_MO_lay 323 = .ok (.ireturn, 1) ∧ 323 + 1 = 324 := ⟨by decide +kernel, rfl⟩
theorem dMO_write1_0 : decode b_MO_write1 0 = .ok (.aload_n 0, 1) ∧ 0 + 1 = 1 := ⟨by decide +kernel, rfl⟩
theorem dMO_write1_1 : decode b_MO_write1 1 = .ok (.getfield 70, 3) ∧ 1 + 3 = 4 := ⟨by decide +kernel, rfl⟩
theorem dMO_write1_4 : decode b_MO_write1 4 = .ok (.iload_n 1, 1) ∧ 4 + 1 = 5 := ⟨by decide +kernel, rfl⟩
theorem dMO_write1_5 : decode b_MO_write1 5 = .ok (.iload_n 2, 1) ∧ 5 + 1 = 6 := ⟨by decide +kernel, rfl⟩
theorem dMO_write1_6 : decode b_MO_write1 6 = .ok (.sipush (255), 3) ∧ 6 + 3 = 9 := ⟨by decide +kernel, rfl⟩
theorem dMO_write1_9 : decode b_MO_write1 9 = .ok (.iand, 1) ∧ 9 + 1 = 10 := ⟨by decide +kernel, rfl⟩
theorem dMO_write1_10 : decode b_MO_write1 10 = .ok (.iastore, 1) ∧ 10 + 1 = 11 := ⟨by decide +kernel, rfl⟩
theorem dMO_write1_11 : decode b_MO_write1 11 = .ok (.return_, 1) ∧ 11 + 1 = 12 := ⟨by decide +kernel, rfl⟩
theorem dMO_write2_0 : decode b_MO_write2 0 = .ok (.aload_n 0, 1) ∧ 0 + 1 = 1 := ⟨by decide +kernel, rfl⟩
theorem dMO_write2_1 : decode b_MO_write2 1 = .ok (.iload_n 1, 1) ∧ 1 + 1 = 2 := ⟨by decide +kernel, rfl⟩
theorem dMO_write2_2 : decode b_MO_write2 2 = .ok (.iload_n 2, 1) ∧ 2 + 1 = 3 := ⟨by decide +kernel, rfl⟩
theorem dMO_write2_3 : decode b_MO_write2 3 = .ok (.invokevirtual 201, 3) ∧ 3 + 3 = 6 := ⟨by decide +kernel, rfl⟩
theorem dMO_write2_6 : decode b_MO_write2 6 = .ok (.aload_n 0, 1) ∧ 6 + 1 = 7 := ⟨by decide +kernel, rfl⟩
theorem dMO_write2_7 : decode b_MO_write2 7 = .ok (.iload_n 1, 1) ∧ 7 + 1 = 8 := ⟨by decide +kernel, rfl⟩
theorem dMO_write2_8 : decode b_MO_write2 8 = .ok (.iconst 1, 1) ∧ 8 + 1 = 9 := ⟨by decide +kernel, rfl⟩
theorem dMO_write2_9 : decode b_MO_write2 9 = .ok (.iadd, 1) ∧ 9 + 1 = 10 := ⟨by decide +kernel, rfl⟩
theorem dMO_write2_10 : decode b_MO_write2 10 = .ok (.iload_n 2, 1) ∧ 10 + 1 = 11 := ⟨by decide +kernel, rfl⟩
theorem dMO_write2_11 : decode b_MO_write2 11 = .ok (.bipush (8), 2) ∧ 11 + 2 = 13 := ⟨by decide +kernel, rfl⟩
theorem dMO_write2_13 : decode b_MO_write2 13 = .ok (.ishr, 1) ∧ 13 + 1 = 14 := ⟨by decide +kernel, rfl⟩
theorem dMO_write2_14 : decode b_MO_write2 14 = .ok (.invokevirtual 201, 3) ∧ 14 + 3 = 17 := ⟨by decide +kernel, rfl⟩
theorem dMO_write2_17 : decode b_MO_write2 17 = .ok (.return_, 1) ∧ 17 + 1 = 18 := ⟨by decide +kernel, rfl⟩
theorem dMO_write4_0 : decode b_MO_write4 0 = .ok (.aload_n 0, 1) ∧ 0 + 1 = 1 := ⟨by decide +kernel, rfl⟩
theorem dMO_write4_1 : decode b_MO_write4 1 = .ok (.iload_n 1, 1) ∧ 1 + 1 = 2 := ⟨by decide +kernel, rfl⟩
theorem dMO_write4_2 : decode b_MO_write4 2 = .ok (.iload_n 2, 1) ∧ 2 + 1 = 3 := ⟨by decide +kernel, rfl⟩
theorem dMO_write4_3 : decode b_MO_write4 3 = .ok (.invokevirtual 205, 3) ∧ 3 + 3 = 6 := ⟨by decide +kernel, rfl⟩
theorem dMO_write4_6 : decode b_MO_write4 6 = .ok (.aload_n 0, 1) ∧ 6 + 1 = 7 := ⟨by decide +kernel, rfl⟩
theorem dMO_write4_7 : decode b_MO_write4 7 = .ok (.iload_n 1, 1) ∧ 7 + 1 = 8 := ⟨by decide +kernel, rfl⟩
theorem dMO_write4_8 : decode b_MO_write4 8 = .ok (.iconst 2, 1) ∧ 8 + 1 = 9 := ⟨by decide +kernel, rfl⟩
theorem dMO_write4_9 : decode b_MO_write4 9 = .ok (.iadd, 1) ∧ 9 + 1 = 10 := ⟨by decide +kernel, rfl⟩
theorem dMO_write4_10 : decode b_MO_write4 10 = .ok (.iload_n 2, 1) ∧ 10 + 1 = 11 := ⟨by decide +kernel, rfl⟩
theorem dMO_write4_11 : decode b_MO_write4 11 = .ok (.bipush (16), 2) ∧ 11 + 2 = 13 := ⟨by decide +kernel, rfl⟩
theorem dMO_write4_13 : decode b_MO_write4 13 = .ok (.ishr, 1) ∧ 13 + 1 = 14 := ⟨by decide +kernel, rfl⟩
theorem dMO_write4_14 : decode b_MO_write4 14 = .ok (.invokevirtual 205, 3) ∧ 14 + 3 = 17 := ⟨by decide +kernel, rfl⟩
theorem dMO_write4_17 : decode b_MO_write4 17 = .ok (.return_, 1) ∧ 17 + 1 = 18 := ⟨by decide +kernel, rfl⟩
theorem dMO_isShort_0 : decode b_MO_isShort 0 = .ok (.iload_n 0, 1) ∧ 0 + 1 = 1 := ⟨by decide +kernel, rfl⟩
theorem dMO_isShort_1 : decode b_MO_isShort 1 = .ok (.iconst 3, 1) ∧ 1 + 1 = 2 := ⟨by decide +kernel, rfl⟩
theorem dMO_isShort_2 : decode b_MO_isShort 2 = .ok (.iand, 1) ∧ 2 + 1 = 3 := ⟨by decide +kernel, rfl⟩
theorem dMO_isShort_3 : decode b_MO_isShort 3 = .ok (.iconst 3, 1) ∧ 3 + 1 = 4 := ⟨by decide +kernel, rfl⟩
theorem dMO_isShort_4 : decode b_MO_isShort 4 = .ok (.if_icmp .eq (7), 3) ∧ 4 + 3 = 7 ∧ ((4 : Nat) : Int) + (7) = ((11 : Nat) : Int) := ⟨by decide +kernel, rfl, by decide⟩
theorem dMO_isShort_7 : decode b_MO_isShort 7 = .ok (.iconst 1, 1) ∧ 7 + 1 = 8 := ⟨by decide +kernel, rfl⟩
theorem dMO_isShort_8 : decode b_MO_isShort 8 = .ok (.goto (4), 3) ∧ 8 + 3 = 11 ∧ ((8 : Nat) : Int) + (4) = ((12 : Nat) : Int) := ⟨by decide +kernel, rfl, by decide⟩
theorem dMO_isShort_11 : decode b_MO_isShort 11 = .ok (.iconst 0, 1) ∧ 11 + 1 = 12 := ⟨by decide +kernel, rfl⟩
theorem dMO_isShort_12 : decode b_MO_isShort 12 = .ok (.ireturn, 1) ∧ 12 + 1 = 13 := ⟨by decide +kernel, rfl⟩
theorem dMO_writeHead_0 : decode b_MO_writeHead 0 = .ok (.aload_n 0, 1) ∧ 0 + 1 = 1 := ⟨by decide +kernel, rfl⟩
theorem dMO_writeHead_1 : decode b_MO_writeHead 1 = .ok (.iconst 0, 1) ∧ 1 + 1 = 2 := ⟨by decide +kernel, rfl⟩
theorem dMO_writeHead_2 : decode b_MO_writeHead 2 = .ok (.ldc 208, 2) ∧ 2 + 2 = 4 := ⟨by decide +kernel, rfl⟩
theorem dMO_writeHead_4 : decode b_MO_writeHead 4 = .ok (.invokevirtual 209, 3) ∧ 4 + 3 = 7 := ⟨by decide +kernel, rfl⟩
theorem dMO_writeHead_7 : decode b_MO_writeHead 7 = .ok (.aload_n 0, 1) ∧ 7 + 1 = 8 := ⟨by decide +kernel, rfl⟩
theorem dMO_writeHead_8 : decode b_MO_writeHead 8 = .ok (.iconst 4, 1) ∧ 8 + 1 = 9 := ⟨by decide +kernel, rfl⟩
theorem dMO_writeHead_9 : decode b_MO_writeHead 9 = .ok (.ldc 212, 2) ∧ 9 + 2 = 11 := ⟨by decide +kernel, rfl⟩
theorem dMO_writeHead_11 : decode b_MO_writeHead 11 = .ok (.invokevirtual 209, 3) ∧ 11 + 3 = 14 := ⟨by decide +kernel, rfl⟩
theorem dMO_writeHead_14 : decode b_MO_writeHead 14 = .ok (.aload_n 0, 1) ∧ 14 + 1 = 15 := ⟨by decide +kernel, rfl⟩
theorem dMO_writeHead_15 : decode b_MO_writeHead 15 = .ok (.bipush (16), 2) ∧ 15 + 2 = 17 := ⟨by decide +kernel, rfl⟩
theorem dMO_writeHead_17 : decode b_MO_writeHead 17 = .ok (.iconst 1, 1) ∧ 17 + 1 = 18 := ⟨by decide +kernel, rfl⟩
theorem dMO_writeHead_18 : decode b_MO_writeHead 18 = .ok (.invokevirtual 205, 3) ∧ 18 + 3 = 21 := ⟨by decide +kernel, rfl⟩
theorem dMO_writeHead_21 : decode b_MO_writeHead 21 = .ok (.aload_n 0, 1) ∧ 21 + 1 = 22 := ⟨by decide +kernel, rfl⟩
theorem dMO_writeHead_22 : decode b_MO_writeHead 22 = .ok (.bipush (18), 2) ∧ 22 + 2 = 24 := ⟨by decide +kernel, rfl⟩
theorem dMO_writeHead_24 : decode b_MO_writeHead 24 = .ok (.sipush (243), 3) ∧ 24 + 3 = 27 := ⟨by decide +kernel, rfl⟩
theorem dMO_writeHead_27 : decode b_MO_writeHead 27 = .ok (.invokevirtual 205, 3) ∧ 27 + 3 = 30 := ⟨by decide +kernel, rfl⟩
theorem dMO_writeHead_30 : decode b_MO_writeHead 30 = .ok (.aload_n 0, 1) ∧ 30 + 1 = 31 := ⟨by decide +kernel, rfl⟩
theorem dMO_writeHead_31 : decode b_MO_writeHead 31 = .ok (.bipush (20), 2) ∧ 31 + 2 = 33 := ⟨by decide +kernel, rfl⟩
theorem dMO_writeHead_33 : decode b_MO_writeHead 33 = .ok (.iconst 1, 1) ∧ 33 + 1 = 34 := ⟨by decide +kernel, rfl⟩
theorem dMO_writeHead_34 : decode b_MO_writeHead 34 = .ok (.invokevirtual 209, 3) ∧ 34 + 3 = 37 := ⟨by decide +kernel, rfl⟩
theorem dMO_writeHead_37 : decode b_MO_writeHead 37 = .ok (.aload_n 0, 1) ∧ 37 + 1 = 38 := ⟨by decide +kernel, rfl⟩
theorem dMO_writeHead_38 : decode b_MO_writeHead 38 = .ok (.bipush (32), 2) ∧ 38 + 2 = 40 := ⟨by decide +kernel, rfl⟩
theorem dMO_writeHead_40 : decode b_MO_writeHead 40 = .ok (.iload_n 1, 1) ∧ 40 + 1 = 41 := ⟨by decide +kernel, rfl⟩
theorem dMO_writeHead_41 : decode b_MO_writeHead 41 = .ok (.invokevirtual 209, 3) ∧ 41 + 3 = 44 := ⟨by decide +kernel, rfl⟩
theorem dMO_writeHead_44 : decode b_MO_writeHead 44 = .ok (.iconst 0, 1) ∧ 44 + 1 = 45 := ⟨by decide +kernel, rfl⟩
theorem dMO_writeHead_45 : decode b_MO_writeHead 45 = .ok (.istore_n 2, 1) ∧ 45 + 1 = 46 := ⟨by decide +kernel, rfl⟩
theorem dMO_writeHead_46 : decode b_MO_writeHead 46 = .ok (.iconst 0, 1) ∧ 46 + 1 = 47 := ⟨by decide +kernel, rfl⟩
theorem dMO_writeHead_47 : decode b_MO_writeHead 47 = .ok (.istore_n 3, 1) ∧ 47 + 1 = 48 := ⟨by decide +kernel, rfl⟩
theorem dMO_writeHead_48 : decode b_MO_writeHead 48 = .ok (.iload_n 3, 1) ∧ 48 + 1 = 49 := ⟨by decide +kernel, rfl⟩
theorem dMO_writeHead_49 : decode b_MO_writeHead 49 = .ok (.aload_n 0, 1) ∧ 49 + 1 = 50 := ⟨by decide +kernel, rfl⟩
theorem dMO_writeHead_50 : decode b_MO_writeHead 50 = .ok (.getfield 22, 3) ∧ 50 + 3 = 53 := ⟨by decide +kernel, rfl⟩
theorem dMO_writeHead_53 : decode b_MO_writeHead 53 = .ok (.iconst 0, 1) ∧ 53 + 1 = 54 := ⟨by decide +kernel, rfl⟩
theorem dMO_writeHead_54 : decode b_MO_writeHead 54 = .ok (.iaload, 1) ∧ 54 + 1 = 55 := ⟨by decide +kernel, rfl⟩
theorem dMO_writeHead_55 : decode b_MO_writeHead 55 = .ok (.if_icmp .ge (34), 3) ∧ 55 + 3 = 58 ∧ ((55 : Nat) : Int) + (34) = ((89 : Nat) : Int) := ⟨by decide +kernel, rfl, by decide⟩
theorem dMO_writeHead_58 : decode b_MO_writeHead 58 = .ok (.iload_n 2, 1) ∧ 58 + 1 = 59 := ⟨by decide +kernel, rfl⟩
theorem dMO_writeHead_59 : decode b_MO_writeHead 59 = .ok (.aload_n 0, 1) ∧ 59 + 1 = 60 := ⟨by decide +kernel, rfl⟩
theorem dMO_writeHead_60 : decode b_MO_writeHead 60 = .ok (.getfield 7, 3) ∧ 60 + 3 = 63 := ⟨by decide +kernel, rfl⟩
theorem dMO_writeHead_63 : decode b_MO_writeHead 63 = .ok (.aload_n 0, 1) ∧ 63 + 1 = 64 := ⟨by decide +kernel, rfl⟩
theorem dMO_writeHead_64 : decode b_MO_writeHead 64 = .ok (.getfield 19, 3) ∧ 64 + 3 = 67 := ⟨by decide +kernel, rfl⟩
theorem dMO_writeHead_67 : decode b_MO_writeHead 67 = .ok (.iload_n 3, 1) ∧ 67 + 1 = 68 := ⟨by decide +kernel, rfl⟩
theorem dMO_writeHead_68 : decode b_MO_writeHead 68 = .ok (.iaload, 1) ∧ 68 + 1 = 69 := ⟨by decide +kernel, rfl⟩
theorem dMO_writeHead_69 : decode b_MO_writeHead 69 = .ok (.iaload, 1) ∧ 69 + 1 = 70 := ⟨by decide +kernel, rfl⟩
theorem dMO_writeHead_70 : decode b_MO_writeHead 70 = .ok (.invokestatic 213, 3) ∧ 70 + 3 = 73 := ⟨by decide +kernel, rfl⟩
theorem dMO_writeHead_73 : decode b_MO_writeHead 73 = .ok (.ifCond .eq (7), 3) ∧ 73 + 3 = 76 ∧ ((73 : Nat) : Int) + (7) = ((80 : Nat) : Int) := ⟨by decide +kernel, rfl, by decide⟩
theorem dMO_writeHead_76 : decode b_MO_writeHead 76 = .ok (.iconst 1, 1) ∧ 76 + 1 = 77 := ⟨by decide +kernel, rfl⟩
theorem dMO_writeHead_77 : decode b_MO_writeHead 77 = .ok (.goto (4), 3) ∧ 77 + 3 = 80 ∧ ((77 : Nat) : Int) + (4) = ((81 : Nat) : Int) := ⟨by decide +kernel, rfl, by decide⟩
theorem dMO_writeHead_80 : decode b_MO_writeHead 80 = .ok (.iconst 0, 1) ∧ 80 + 1 = 81 := ⟨by decide +kernel, rfl⟩
theorem dMO_writeHead_81 : decode b_MO_writeHead 81 = .ok (.iadd, 1) ∧ 81 + 1 = 82 := ⟨by decide +kernel, rfl⟩
theorem dMO_writeHead_82 : decode b_MO_writeHead 82 = .ok (.istore_n 2, 1) ∧ 82 + 1 = 83 := ⟨by decide +kernel, rfl⟩
theorem dMO_writeHead_83 : decode b_MO_writeHead 83 = .ok (.iinc 3 (1), 3) ∧ 83 + 3 = 86 := ⟨by decide +kernel, rfl⟩
theorem dMO_writeHead_86 : decode b_MO_writeHead 86 = .ok (.goto (-38), 3) ∧ 86 + 3 = 89 ∧ ((86 : Nat) : Int) + (-38) = ((48 : Nat) : Int) := ⟨by decide +kernel, rfl, by decide⟩
theorem dMO_writeHead_89 : decode b_MO_writeHead 89 = .ok (.aload_n 0, 1) ∧ 89 + 1 = 90 := ⟨by decide +kernel, rfl⟩
theorem dMO_writeHead_90 : decode b_MO_writeHead 90 = .ok (.bipush (36), 2) ∧ 90 + 2 = 92 := ⟨by decide +kernel, rfl⟩
theorem dMO_writeHead_92 : decode b_MO_writeHead 92 = .ok (.iload_n 2, 1) ∧ 92 + 1 = 93 := ⟨by decide +kernel, rfl⟩
theorem dMO_writeHead_93 : decode b_MO_writeHead 93 = .ok (.ifCond .le (7), 3) ∧ 93 + 3 = 96 ∧ ((93 : Nat) : Int) + (7) = ((100 : Nat) : Int) := ⟨by decide +kernel, rfl, by decide⟩
theorem dMO_writeHead_96 : decode b_MO_writeHead 96 = .ok (.iconst 1, 1) ∧ 96 + 1 = 97 := ⟨by decide +kernel, rfl⟩
theorem dMO_writeHead_97 : decode b_MO_writeHead 97 = .ok (.goto (4), 3) ∧ 97 + 3 = 100 ∧ ((97 : Nat) : Int) + (4) = ((101 : Nat) : Int) := ⟨by decide +kernel, rfl, by decide⟩
theorem dMO_writeHead_100 : decode b_MO_writeHead 100 = .ok (.iconst 0, 1) ∧ 100 + 1 = 101 := ⟨by decide +kernel, rfl⟩
theorem dMO_writeHead_101 : decode b_MO_writeHead 101 = .ok (.invokevirtual 209, 3) ∧ 101 + 3 = 104 := ⟨by decide +kernel, rfl⟩
theorem dMO_writeHead_104 : decode b_MO_writeHead 104 = .ok (.aload_n 0, 1) ∧ 104 + 1 = 105 := ⟨by decide +kernel, rfl⟩
theorem dMO_writeHead_105 : decode b_MO_writeHead 105 = .ok (.bipush (40), 2) ∧ 105 + 2 = 107 := ⟨by decide +kernel, rfl⟩
theorem dMO_writeHead_107 : decode b_MO_writeHead 107 = .ok (.bipush (52), 2) ∧ 107 + 2 = 109 := ⟨by decide +kernel, rfl⟩
theorem dMO_writeHead_109 : decode b_MO_writeHead 109 = .ok (.invokevirtual 205, 3) ∧ 109 + 3 = 112 := ⟨by decide +kernel, rfl⟩
theorem dMO_writeHead_112 : decode b_MO_writeHead 112 = .ok (.aload_n 0, 1) ∧ 112 + 1 = 113 := ⟨by decide +kernel, rfl⟩
theorem dMO_writeHead_113 : decode b_MO_writeHead 113 = .ok (.bipush (46), 2) ∧ 113 + 2 = 115 := ⟨by decide +kernel, rfl⟩
theorem dMO_writeHead_115 : decode b_MO_writeHead 115 = .ok (.bipush (40), 2) ∧ 115 + 2 = 117 := ⟨by decide +kernel, rfl⟩
theorem dMO_writeHead_117 : decode b_MO_writeHead 117 = .ok (.invokevirtual 205, 3) ∧ 117 + 3 = 120 := ⟨by decide +kernel, rfl⟩
theorem dMO_writeHead_120 : decode b_MO_writeHead 120 = .ok (.aload_n 0, 1) ∧ 120 + 1 = 121 := ⟨by decide +kernel, rfl⟩
theorem dMO_writeHead_121 : decode b_MO_writeHead 121 = .ok (.bipush (48), 2) ∧ 121 + 2 = 123 := ⟨by decide +kernel, rfl⟩
theorem dMO_writeHead_123 : decode b_MO_writeHead 123 = .ok (.aload_n 0, 1) ∧ 123 + 1 = 124 := ⟨by decide +kernel, rfl⟩
theorem dMO_writeHead_124 : decode b_MO_writeHead 124 = .ok (.getfield 195, 3) ∧ 124 + 3 = 127 := ⟨by decide +kernel, rfl⟩
theorem dMO_writeHead_127 : decode b_MO_writeHead 127 = .ok (.invokevirtual 205, 3) ∧ 127 + 3 = 130 := ⟨by decide +kernel, rfl⟩
theorem dMO_writeHead_130 : decode b_MO_writeHead 130 = .ok (.aload_n 0, 1) ∧ 130 + 1 = 131 := ⟨by decide +kernel, rfl⟩
theorem dMO_writeHead_131 : decode b_MO_writeHead 131 = .ok (.bipush (50), 2) ∧ 131 + 2 = 133 := ⟨by decide +kernel, rfl⟩
theorem dMO_writeHead_133 : decode b_MO_writeHead 133 = .ok (.aload_n 0, 1) ∧ 133 + 1 = 134 := ⟨by decide +kernel, rfl⟩
theorem dMO_writeHead_134 : decode b_MO_writeHead 134 = .ok (.getfield 89, 3) ∧ 134 + 3 = 137 := ⟨by decide +kernel, rfl⟩
theorem dMO_writeHead_137 : decode b_MO_writeHead 137 = .ok (.bipush (10), 2) ∧ 137 + 2 = 139 := ⟨by decide +kernel, rfl⟩
theorem dMO_writeHead_139 : decode b_MO_writeHead 139 = .ok (.iaload, 1) ∧ 139 + 1 = 140 := ⟨by decide +kernel, rfl⟩
theorem dMO_writeHead_140 : decode b_MO_writeHead 140 = .ok (.invokevirtual 205, 3) ∧ 140 + 3 = 143 := ⟨by decide +kernel, rfl⟩
theorem dMO_writeHead_143 : decode b_MO_writeHead 143 = .ok (.return_, 1) ∧ 143 + 1 = 144 := ⟨by decide +kernel, rfl⟩
theorem dMO_writeSymbols_0 : decode b_MO_writeSymbols 0 = .ok (.iconst 0, 1) ∧ 0 + 1 = 1 := ⟨by decide +kernel, rfl⟩
theorem dMO_writeSymbols_1 : decode b_MO_writeSymbols 1 = .ok (.istore_n 1, 1) ∧ 1 + 1 = 2 := ⟨by decide +kernel, rfl⟩
theorem dMO_writeSymbols_2 : decode b_MO_writeSymbols 2 = .ok (.iload_n 1, 1) ∧ 2 + 1 = 3 := ⟨by decide +kernel, rfl⟩
theorem dMO_writeSymbols_3 : decode b_MO_writeSymbols 3 = .ok (.aload_n 0, 1) ∧ 3 + 1 = 4 := ⟨by decide +kernel, rfl⟩
theorem dMO_writeSymbols_4 : decode b_MO_writeSymbols 4 = .ok (.getfield 46, 3) ∧ 4 + 3 = 7 := ⟨by decide +kernel, rfl⟩
theorem dMO_writeSymbols_7 : decode b_MO_writeSymbols 7 = .ok (.iconst 0, 1) ∧ 7 + 1 = 8 := ⟨by decide +kernel, rfl⟩
theorem dMO_writeSymbols_8 : decode b_MO_writeSymbols 8 = .ok (.iaload, 1) ∧ 8 + 1 = 9 := ⟨by decide +kernel, rfl⟩
theorem dMO_writeSymbols_9 : decode b_MO_writeSymbols 9 = .ok (.if_icmp .ge (155), 3) ∧ 9 + 3 = 12 ∧ ((9 : Nat) : Int) + (155) = ((164 : Nat) : Int) := ⟨by decide +kernel, rfl, by decide⟩
theorem dMO_writeSymbols_12 : decode b_MO_writeSymbols 12 = .ok (.aload_n 0, 1) ∧ 12 + 1 = 13 := ⟨by decide +kernel, rfl⟩
theorem dMO_writeSymbols_13 : decode b_MO_writeSymbols 13 = .ok (.getfield 83, 3) ∧ 13 + 3 = 16 := ⟨by decide +kernel, rfl⟩
theorem dMO_writeSymbols_16 : decode b_MO_writeSymbols 16 = .ok (.bipush (8), 2) ∧ 16 + 2 = 18 := ⟨by decide +kernel, rfl⟩
theorem dMO_writeSymbols_18 : decode b_MO_writeSymbols 18 = .ok (.iaload, 1) ∧ 18 + 1 = 19 := ⟨by decide +kernel, rfl⟩
theorem dMO_writeSymbols_19 : decode b_MO_writeSymbols 19 = .ok (.bipush (16), 2) ∧ 19 + 2 = 21 := ⟨by decide +kernel, rfl⟩
theorem dMO_writeSymbols_21 : decode b_MO_writeSymbols 21 = .ok (.iadd, 1) ∧ 21 + 1 = 22 := ⟨by decide +kernel, rfl⟩
theorem dMO_writeSymbols_22 : decode b_MO_writeSymbols 22 = .ok (.bipush (16), 2) ∧ 22 + 2 = 24 := ⟨by decide +kernel, rfl⟩
theorem dMO_writeSymbols_24 : decode b_MO_writeSymbols 24 = .ok (.aload_n 0, 1) ∧ 24 + 1 = 25 := ⟨by decide +kernel, rfl⟩
theorem dMO_writeSymbols_25 : decode b_MO_writeSymbols 25 = .ok (.getfield 101, 3) ∧ 25 + 3 = 28 := ⟨by decide +kernel, rfl⟩
theorem dMO_writeSymbols_28 : decode b_MO_writeSymbols 28 = .ok (.iload_n 1, 1) ∧ 28 + 1 = 29 := ⟨by decide +kernel, rfl⟩
theorem dMO_writeSymbols_29 : decode b_MO_writeSymbols 29 = .ok (.iaload, 1) ∧ 29 + 1 = 30 := ⟨by decide +kernel, rfl⟩
theorem dMO_writeSymbols_30 : decode b_MO_writeSymbols 30 = .ok (.imul, 1) ∧ 30 + 1 = 31 := ⟨by decide +kernel, rfl⟩
theorem dMO_writeSymbols_31 : decode b_MO_writeSymbols 31 = .ok (.iadd, 1) ∧ 31 + 1 = 32 := ⟨by decide +kernel, rfl⟩
theorem dMO_writeSymbols_32 : decode b_MO_writeSymbols 32 = .ok (.istore_n 2, 1) ∧ 32 + 1 = 33 := ⟨by decide +kernel, rfl⟩
theorem dMO_writeSymbols_33 : decode b_MO_writeSymbols 33 = .ok (.aload_n 0, 1) ∧ 33 + 1 = 34 := ⟨by decide +kernel, rfl⟩
theorem dMO_writeSymbols_34 : decode b_MO_writeSymbols 34 = .ok (.iload_n 2, 1) ∧ 34 + 1 = 35 := ⟨by decide +kernel, rfl⟩
theorem dMO_writeSymbols_35 : decode b_MO_writeSymbols 35 = .ok (.aload_n 0, 1) ∧ 35 + 1 = 36 := ⟨by decide +kernel, rfl⟩
theorem dMO_writeSymbols_36 : decode b_MO_writeSymbols 36 = .ok (.getfield 98, 3) ∧ 36 + 3 = 39 := ⟨by decide +kernel, rfl⟩
theorem dMO_writeSymbols_39 : decode b_MO_writeSymbols 39 = .ok (.iload_n 1, 1) ∧ 39 + 1 = 40 := ⟨by decide +kernel, rfl⟩
theorem dMO_writeSymbols_40 : decode b_MO_writeSymbols 40 = .ok (.iaload, 1) ∧ 40 + 1 = 41 := ⟨by decide +kernel, rfl⟩
theorem dMO_writeSymbols_41 : decode b_MO_writeSymbols 41 = .ok (.invokevirtual 209, 3) ∧ 41 + 3 = 44 := ⟨by decide +kernel, rfl⟩
theorem dMO_writeSymbols_44 : decode b_MO_writeSymbols 44 = .ok (.aload_n 0, 1) ∧ 44 + 1 = 45 := ⟨by decide +kernel, rfl⟩
theorem dMO_writeSymbols_45 : decode b_MO_writeSymbols 45 = .ok (.iload_n 2, 1) ∧ 45 + 1 = 46 := ⟨by decide +kernel, rfl⟩
theorem dMO_writeSymbols_46 : decode b_MO_writeSymbols 46 = .ok (.iconst 4, 1) ∧ 46 + 1 = 47 := ⟨by decide +kernel, rfl⟩
theorem dMO_writeSymbols_47 : decode b_MO_writeSymbols 47 = .ok (.iadd, 1) ∧ 47 + 1 = 48 := ⟨by decide +kernel, rfl⟩
theorem dMO_writeSymbols_48 : decode b_MO_writeSymbols 48 = .ok (.aload_n 0, 1) ∧ 48 + 1 = 49 := ⟨by decide +kernel, rfl⟩
theorem dMO_writeSymbols_49 : decode b_MO_writeSymbols 49 = .ok (.getfield 28, 3) ∧ 49 + 3 = 52 := ⟨by decide +kernel, rfl⟩
theorem dMO_writeSymbols_52 : decode b_MO_writeSymbols 52 = .ok (.iload_n 1, 1) ∧ 52 + 1 = 53 := ⟨by decide +kernel, rfl⟩
theorem dMO_writeSymbols_53 : decode b_MO_writeSymbols 53 = .ok (.iaload, 1) ∧ 53 + 1 = 54 := ⟨by decide +kernel, rfl⟩
theorem dMO_writeSymbols_54 : decode b_MO_writeSymbols 54 = .ok (.invokevirtual 209, 3) ∧ 54 + 3 = 57 := ⟨by decide +kernel, rfl⟩
theorem dMO_writeSymbols_57 : decode b_MO_writeSymbols 57 = .ok (.aload_n 0, 1) ∧ 57 + 1 = 58 := ⟨by decide +kernel, rfl⟩
theorem dMO_writeSymbols_58 : decode b_MO_writeSymbols 58 = .ok (.iload_n 2, 1) ∧ 58 + 1 = 59 := ⟨by decide +kernel, rfl⟩
theorem dMO_writeSymbols_59 : decode b_MO_writeSymbols 59 = .ok (.bipush (8), 2) ∧ 59 + 2 = 61 := ⟨by decide +kernel, rfl⟩
theorem dMO_writeSymbols_61 : decode b_MO_writeSymbols 61 = .ok (.iadd, 1) ∧ 61 + 1 = 62 := ⟨by decide +kernel, rfl⟩
theorem dMO_writeSymbols_62 : decode b_MO_writeSymbols 62 = .ok (.aload_n 0, 1) ∧ 62 + 1 = 63 := ⟨by decide +kernel, rfl⟩
theorem dMO_writeSymbols_63 : decode b_MO_writeSymbols 63 = .ok (.getfield 31, 3) ∧ 63 + 3 = 66 := ⟨by decide +kernel, rfl⟩
theorem dMO_writeSymbols_66 : decode b_MO_writeSymbols 66 = .ok (.iload_n 1, 1) ∧ 66 + 1 = 67 := ⟨by decide +kernel, rfl⟩
theorem dMO_writeSymbols_67 : decode b_MO_writeSymbols 67 = .ok (.iaload, 1) ∧ 67 + 1 = 68 := ⟨by decide +kernel, rfl⟩
theorem dMO_writeSymbols_68 : decode b_MO_writeSymbols 68 = .ok (.invokevirtual 209, 3) ∧ 68 + 3 = 71 := ⟨by decide +kernel, rfl⟩
theorem dMO_writeSymbols_71 : decode b_MO_writeSymbols 71 = .ok (.aload_n 0, 1) ∧ 71 + 1 = 72 := ⟨by decide +kernel, rfl⟩
theorem dMO_writeSymbols_72 : decode b_MO_writeSymbols 72 = .ok (.iload_n 2, 1) ∧ 72 + 1 = 73 := ⟨by decide +kernel, rfl⟩
theorem dMO_writeSymbols_73 : decode b_MO_writeSymbols 73 = .ok (.bipush (12), 2) ∧ 73 + 2 = 75 := ⟨by decide +kernel, rfl⟩
theorem dMO_writeSymbols_75 : decode b_MO_writeSymbols 75 = .ok (.iadd, 1) ∧ 75 + 1 = 76 := ⟨by decide +kernel, rfl⟩
theorem dMO_writeSymbols_76 : decode b_MO_writeSymbols 76 = .ok (.bipush (16), 2) ∧ 76 + 2 = 78 := ⟨by decide +kernel, rfl⟩
theorem dMO_writeSymbols_78 : decode b_MO_writeSymbols 78 = .ok (.aload_n 0, 1) ∧ 78 + 1 = 79 := ⟨by decide +kernel, rfl⟩
theorem dMO_writeSymbols_79 : decode b_MO_writeSymbols 79 = .ok (.getfield 34, 3) ∧ 79 + 3 = 82 := ⟨by decide +kernel, rfl⟩
theorem dMO_writeSymbols_82 : decode b_MO_writeSymbols 82 = .ok (.iload_n 1, 1) ∧ 82 + 1 = 83 := ⟨by decide +kernel, rfl⟩
theorem dMO_writeSymbols_83 : decode b_MO_writeSymbols 83 = .ok (.iaload, 1) ∧ 83 + 1 = 84 := ⟨by decide +kernel, rfl⟩
theorem dMO_writeSymbols_84 : decode b_MO_writeSymbols 84 = .ok (.imul, 1) ∧ 84 + 1 = 85 := ⟨by decide +kernel, rfl⟩
theorem dMO_writeSymbols_85 : decode b_MO_writeSymbols 85 = .ok (.aload_n 0, 1) ∧ 85 + 1 = 86 := ⟨by decide +kernel, rfl⟩
theorem dMO_writeSymbols_86 : decode b_MO_writeSymbols 86 = .ok (.getfield 37, 3) ∧ 86 + 3 = 89 := ⟨by decide +kernel, rfl⟩
theorem dMO_writeSymbols_89 : decode b_MO_writeSymbols 89 = .ok (.iload_n 1, 1) ∧ 89 + 1 = 90 := ⟨by decide +kernel, rfl⟩
theorem dMO_writeSymbols_90 : decode b_MO_writeSymbols 90 = .ok (.iaload, 1) ∧ 90 + 1 = 91 := ⟨by decide +kernel, rfl⟩
theorem dMO_writeSymbols_91 : decode b_MO_writeSymbols 91 = .ok (.iadd, 1) ∧ 91 + 1 = 92 := ⟨by decide +kernel, rfl⟩
theorem dMO_writeSymbols_92 : decode b_MO_writeSymbols 92 = .ok (.invokevirtual 201, 3) ∧ 92 + 3 = 95 := ⟨by decide +kernel, rfl⟩
theorem dMO_writeSymbols_95 : decode b_MO_writeSymbols 95 = .ok (.aload_n 0, 1) ∧ 95 + 1 = 96 := ⟨by decide +kernel, rfl⟩
theorem dMO_writeSymbols_96 : decode b_MO_writeSymbols 96 = .ok (.iload_n 2, 1) ∧ 96 + 1 = 97 := ⟨by decide +kernel, rfl⟩
theorem dMO_writeSymbols_97 : decode b_MO_writeSymbols 97 = .ok (.bipush (14), 2) ∧ 97 + 2 = 99 := ⟨by decide +kernel, rfl⟩
theorem dMO_writeSymbols_99 : decode b_MO_writeSymbols 99 = .ok (.iadd, 1) ∧ 99 + 1 = 100 := ⟨by decide +kernel, rfl⟩
theorem dMO_writeSymbols_100 : decode b_MO_writeSymbols 100 = .ok (.aload_n 0, 1) ∧ 100 + 1 = 101 := ⟨by decide +kernel, rfl⟩
theorem dMO_writeSymbols_101 : decode b_MO_writeSymbols 101 = .ok (.getfield 25, 3) ∧ 101 + 3 = 104 := ⟨by decide +kernel, rfl⟩
theorem dMO_writeSymbols_104 : decode b_MO_writeSymbols 104 = .ok (.iload_n 1, 1) ∧ 104 + 1 = 105 := ⟨by decide +kernel, rfl⟩
theorem dMO_writeSymbols_105 : decode b_MO_writeSymbols 105 = .ok (.iaload, 1) ∧ 105 + 1 = 106 := ⟨by decide +kernel, rfl⟩
theorem dMO_writeSymbols_106 : decode b_MO_writeSymbols 106 = .ok (.iconst (-1), 1) ∧ 106 + 1 = 107 := ⟨by decide +kernel, rfl⟩
theorem dMO_writeSymbols_107 : decode b_MO_writeSymbols 107 = .ok (.if_icmp .ne (7), 3) ∧ 107 + 3 = 110 ∧ ((107 : Nat) : Int) + (7) = ((114 : Nat) : Int) := ⟨by decide +kernel, rfl, by decide⟩
theorem dMO_writeSymbols_110 : decode b_MO_writeSymbols 110 = .ok (.iconst 0, 1) ∧ 110 + 1 = 111 := ⟨by decide +kernel, rfl⟩
theorem dMO_writeSymbols_111 : decode b_MO_writeSymbols 111 = .ok (.goto (44), 3) ∧ 111 + 3 = 114 ∧ ((111 : Nat) : Int) + (44) = ((155 : Nat) : Int) := ⟨by decide +kernel, rfl, by decide⟩
theorem dMO_writeSymbols_114 : decode b_MO_writeSymbols 114 = .ok (.aload_n 0, 1) ∧ 114 + 1 = 115 := ⟨by decide +kernel, rfl⟩
theorem dMO_writeSymbols_115 : decode b_MO_writeSymbols 115 = .ok (.getfield 25, 3) ∧ 115 + 3 = 118 := ⟨by decide +kernel, rfl⟩
theorem dMO_writeSymbols_118 : decode b_MO_writeSymbols 118 = .ok (.iload_n 1, 1) ∧ 118 + 1 = 119 := ⟨by decide +kernel, rfl⟩
theorem dMO_writeSymbols_119 : decode b_MO_writeSymbols 119 = .ok (.iaload, 1) ∧ 119 + 1 = 120 := ⟨by decide +kernel, rfl⟩
theorem dMO_writeSymbols_120 : decode b_MO_writeSymbols 120 = .ok (.iconst 4, 1) ∧ 120 + 1 = 121 := ⟨by decide +kernel, rfl⟩
theorem dMO_writeSymbols_121 : decode b_MO_writeSymbols 121 = .ok (.if_icmp .ge (17), 3) ∧ 121 + 3 = 124 ∧ ((121 : Nat) : Int) + (17) = ((138 : Nat) : Int) := ⟨by decide +kernel, rfl, by decide⟩
theorem dMO_writeSymbols_124 : decode b_MO_writeSymbols 124 = .ok (.aload_n 0, 1) ∧ 124 + 1 = 125 := ⟨by decide +kernel, rfl⟩
theorem dMO_writeSymbols_125 : decode b_MO_writeSymbols 125 = .ok (.getfield 89, 3) ∧ 125 + 3 = 128 := ⟨by decide +kernel, rfl⟩
theorem dMO_writeSymbols_128 : decode b_MO_writeSymbols 128 = .ok (.aload_n 0, 1) ∧ 128 + 1 = 129 := ⟨by decide +kernel, rfl⟩
theorem dMO_writeSymbols_129 : decode b_MO_writeSymbols 129 = .ok (.getfield 25, 3) ∧ 129 + 3 = 132 := ⟨by decide +kernel, rfl⟩
theorem dMO_writeSymbols_132 : decode b_MO_writeSymbols 132 = .ok (.iload_n 1, 1) ∧ 132 + 1 = 133 := ⟨by decide +kernel, rfl⟩
theorem dMO_writeSymbols_133 : decode b_MO_writeSymbols 133 = .ok (.iaload, 1) ∧ 133 + 1 = 134 := ⟨by decide +kernel, rfl⟩
theorem dMO_writeSymbols_134 : decode b_MO_writeSymbols 134 = .ok (.iaload, 1) ∧ 134 + 1 = 135 := ⟨by decide +kernel, rfl⟩
theorem dMO_writeSymbols_135 : decode b_MO_writeSymbols 135 = .ok (.goto (20), 3) ∧ 135 + 3 = 138 ∧ ((135 : Nat) : Int) + (20) = ((155 : Nat) : Int) := ⟨by decide +kernel, rfl, by decide⟩
theorem dMO_writeSymbols_138 : decode b_MO_writeSymbols 138 = .ok (.aload_n 0, 1) ∧ 138 + 1 = 139 := ⟨by decide +kernel, rfl⟩
theorem dMO_writeSymbols_139 : decode b_MO_writeSymbols 139 = .ok (.getfield 25, 3) ∧ 139 + 3 = 142 := ⟨by decide +kernel, rfl⟩
theorem dMO_writeSymbols_142 : decode b_MO_writeSymbols 142 = .ok (.iload_n 1, 1) ∧ 142 + 1 = 143 := ⟨by decide +kernel, rfl⟩
theorem dMO_writeSymbols_143 : decode b_MO_writeSymbols 143 = .ok (.iaload, 1) ∧ 143 + 1 = 144 := ⟨by decide +kernel, rfl⟩
theorem dMO_writeSymbols_144 : decode b_MO_writeSymbols 144 = .ok (.iconst 4, 1) ∧ 144 + 1 = 145 := ⟨by decide +kernel, rfl⟩
theorem dMO_writeSymbols_145 : decode b_MO_writeSymbols 145 = .ok (.if_icmp .ne (8), 3) ∧ 145 + 3 = 148 ∧ ((145 : Nat) : Int) + (8) = ((153 : Nat) : Int) := ⟨by decide +kernel, rfl, by decide⟩
theorem dMO_writeSymbols_148 : decode b_MO_writeSymbols 148 = .ok (.ldc 225, 2) ∧ 148 + 2 = 150 := ⟨by decide +kernel, rfl⟩
theorem dMO_writeSymbols_150 : decode b_MO_writeSymbols 150 = .ok (.goto (5), 3) ∧ 150 + 3 = 153 ∧ ((150 : Nat) : Int) + (5) = ((155 : Nat) : Int) := ⟨by decide +kernel, rfl, by decide⟩
theorem dMO_writeSymbols_153 : decode b_MO_writeSymbols 153 = .ok (.ldc 226, 2) ∧ 153 + 2 = 155 := ⟨by decide +kernel, rfl⟩
theorem dMO_writeSymbols_155 : decode b_MO_writeSymbols 155 = .ok (.invokevirtual 205, 3) ∧ 155 + 3 = 158 := ⟨by decide +kernel, rfl⟩
theorem dMO_writeSymbols_158 : decode b_MO_writeSymbols 158 = .ok (.iinc 1 (1), 3) ∧ 158 + 3 = 161 := ⟨by decide +kernel, rfl⟩
theorem dMO_writeSymbols_161 : decode b_MO_writeSymbols 161 = .ok (.goto (-159), 3) ∧ 161 + 3 = 164 ∧ ((161 : Nat) : Int) + (-159) = ((2 : Nat) : Int) := ⟨by decide +kernel, rfl, by decide⟩
theorem dMO_writeSymbols_164 : decode b_MO_writeSymbols 164 = .ok (.return_, 1) ∧ 164 + 1 = 165 := ⟨by decide +kernel, rfl⟩
theorem dMO_sortOf_0 : decode b_MO_sortOf 0 = .ok (.iload_n 0, 1) ∧ 0 + 1 = 1 := ⟨by decide +kernel, rfl⟩
theorem dMO_sortOf_1 : decode b_MO_sortOf 1 = .ok (.iconst 3, 1) ∧ 1 + 1 = 2 := ⟨by decide +kernel, rfl⟩
theorem dMO_sortOf_2 : decode b_MO_sortOf 2 = .ok (.if_icmp .ne (8), 3) ∧ 2 + 3 = 5 ∧ ((2 : Nat) : Int) + (8) = ((10 : Nat) : Int) := ⟨by decide +kernel, rfl, by decide⟩
theorem dMO_sortOf_5 : decode b_MO_sortOf 5 = .ok (.bipush (8), 2) ∧ 5 + 2 = 7 := ⟨by decide +kernel, rfl⟩
theorem dMO_sortOf_7 : decode b_MO_sortOf 7 = .ok (.goto (39), 3) ∧ 7 + 3 = 10 ∧ ((7 : Nat) : Int) + (39) = ((46 : Nat) : Int) := ⟨by decide +kernel, rfl, by decide⟩
theorem dMO_sortOf_10 : decode b_MO_sortOf 10 = .ok (.iload_n 0, 1) ∧ 10 + 1 = 11 := ⟨by decide +kernel, rfl⟩
theorem dMO_sortOf_11 : decode b_MO_sortOf 11 = .ok (.iconst 5, 1) ∧ 11 + 1 = 12 := ⟨by decide +kernel, rfl⟩
theorem dMO_sortOf_12 : decode b_MO_sortOf 12 = .ok (.if_icmp .lt (13), 3) ∧ 12 + 3 = 15 ∧ ((12 : Nat) : Int) + (13) = ((25 : Nat) : Int) := ⟨by decide +kernel, rfl, by decide⟩
theorem dMO_sortOf_15 : decode b_MO_sortOf 15 = .ok (.iload_n 0, 1) ∧ 15 + 1 = 16 := ⟨by decide +kernel, rfl⟩
theorem dMO_sortOf_16 : decode b_MO_sortOf 16 = .ok (.bipush (8), 2) ∧ 16 + 2 = 18 := ⟨by decide +kernel, rfl⟩
theorem dMO_sortOf_18 : decode b_MO_sortOf 18 = .ok (.if_icmp .ge (7), 3) ∧ 18 + 3 = 21 ∧ ((18 : Nat) : Int) + (7) = ((25 : Nat) : Int) := ⟨by decide +kernel, rfl, by decide⟩
theorem dMO_sortOf_21 : decode b_MO_sortOf 21 = .ok (.iconst 4, 1) ∧ 21 + 1 = 22 := ⟨by decide +kernel, rfl⟩
theorem dMO_sortOf_22 : decode b_MO_sortOf 22 = .ok (.goto (24), 3) ∧ 22 + 3 = 25 ∧ ((22 : Nat) : Int) + (24) = ((46 : Nat) : Int) := ⟨by decide +kernel, rfl, by decide⟩
theorem dMO_sortOf_25 : decode b_MO_sortOf 25 = .ok (.iload_n 0, 1) ∧ 25 + 1 = 26 := ⟨by decide +kernel, rfl⟩
theorem dMO_sortOf_26 : decode b_MO_sortOf 26 = .ok (.bipush (8), 2) ∧ 26 + 2 = 28 := ⟨by decide +kernel, rfl⟩
theorem dMO_sortOf_28 : decode b_MO_sortOf 28 = .ok (.if_icmp .ne (7), 3) ∧ 28 + 3 = 31 ∧ ((28 : Nat) : Int) + (7) = ((35 : Nat) : Int) := ⟨by decide +kernel, rfl, by decide⟩
theorem dMO_sortOf_31 : decode b_MO_sortOf 31 = .ok (.iconst 2, 1) ∧ 31 + 1 = 32 := ⟨by decide +kernel, rfl⟩
theorem dMO_sortOf_32 : decode b_MO_sortOf 32 = .ok (.goto (14), 3) ∧ 32 + 3 = 35 ∧ ((32 : Nat) : Int) + (14) = ((46 : Nat) : Int) := ⟨by decide +kernel, rfl, by decide⟩
theorem dMO_sortOf_35 : decode b_MO_sortOf 35 = .ok (.iload_n 0, 1) ∧ 35 + 1 = 36 := ⟨by decide +kernel, rfl⟩
theorem dMO_sortOf_36 : decode b_MO_sortOf 36 = .ok (.bipush (8), 2) ∧ 36 + 2 = 38 := ⟨by decide +kernel, rfl⟩
theorem dMO_sortOf_38 : decode b_MO_sortOf 38 = .ok (.if_icmp .le (7), 3) ∧ 38 + 3 = 41 ∧ ((38 : Nat) : Int) + (7) = ((45 : Nat) : Int) := ⟨by decide +kernel, rfl, by decide⟩
theorem dMO_sortOf_41 : decode b_MO_sortOf 41 = .ok (.iconst 3, 1) ∧ 41 + 1 = 42 := ⟨by decide +kernel, rfl⟩
theorem dMO_sortOf_42 : decode b_MO_sortOf 42 = .ok (.goto (4), 3) ∧ 42 + 3 = 45 ∧ ((42 : Nat) : Int) + (4) = ((46 : Nat) : Int) := ⟨by decide +kernel, rfl, by decide⟩
theorem dMO_sortOf_45 : decode b_MO_sortOf 45 = .ok (.iconst 1, 1) ∧ 45 + 1 = 46 := ⟨by decide +kernel, rfl⟩
theorem dMO_sortOf_46 : decode b_MO_sortOf 46 = .ok (.ireturn, 1) ∧ 46 + 1 = 47 := ⟨by decide +kernel, rfl⟩
theorem dMO_flagsOf_0 : decode b_MO_flagsOf 0 = .ok (.iload_n 0, 1) ∧ 0 + 1 = 1 := ⟨by decide +kernel, rfl⟩
theorem dMO_flagsOf_1 : decode b_MO_flagsOf 1 = .ok (.ifCond .ne (8), 3) ∧ 1 + 3 = 4 ∧ ((1 : Nat) : Int) + (8) = ((9 : Nat) : Int) := ⟨by decide +kernel, rfl, by decide⟩
theorem dMO_flagsOf_4 : decode b_MO_flagsOf 4 = .ok (.bipush (6), 2) ∧ 4 + 2 = 6 := ⟨by decide +kernel, rfl⟩
theorem dMO_flagsOf_6 : decode b_MO_flagsOf 6 = .ok (.goto (38), 3) ∧ 6 + 3 = 9 ∧ ((6 : Nat) : Int) + (38) = ((44 : Nat) : Int) := ⟨by decide +kernel, rfl, by decide⟩
theorem dMO_flagsOf_9 : decode b_MO_flagsOf 9 = .ok (.iload_n 0, 1) ∧ 9 + 1 = 10 := ⟨by decide +kernel, rfl⟩
theorem dMO_flagsOf_10 : decode b_MO_flagsOf 10 = .ok (.iconst 1, 1) ∧ 10 + 1 = 11 := ⟨by decide +kernel, rfl⟩
theorem dMO_flagsOf_11 : decode b_MO_flagsOf 11 = .ok (.if_icmp .ne (7), 3) ∧ 11 + 3 = 14 ∧ ((11 : Nat) : Int) + (7) = ((18 : Nat) : Int) := ⟨by decide +kernel, rfl, by decide⟩
theorem dMO_flagsOf_14 : decode b_MO_flagsOf 14 = .ok (.iconst 2, 1) ∧ 14 + 1 = 15 := ⟨by decide +kernel, rfl⟩
theorem dMO_flagsOf_15 : decode b_MO_flagsOf 15 = .ok (.goto (29), 3) ∧ 15 + 3 = 18 ∧ ((15 : Nat) : Int) + (29) = ((44 : Nat) : Int) := ⟨by decide +kernel, rfl, by decide⟩
theorem dMO_flagsOf_18 : decode b_MO_flagsOf 18 = .ok (.iload_n 0, 1) ∧ 18 + 1 = 19 := ⟨by decide +kernel, rfl⟩
theorem dMO_flagsOf_19 : decode b_MO_flagsOf 19 = .ok (.iconst 4, 1) ∧ 19 + 1 = 20 := ⟨by decide +kernel, rfl⟩
theorem dMO_flagsOf_20 : decode b_MO_flagsOf 20 = .ok (.if_icmp .ge (7), 3) ∧ 20 + 3 = 23 ∧ ((20 : Nat) : Int) + (7) = ((27 : Nat) : Int) := ⟨by decide +kernel, rfl, by decide⟩
theorem dMO_flagsOf_23 : decode b_MO_flagsOf 23 = .ok (.iconst 3, 1) ∧ 23 + 1 = 24 := ⟨by decide +kernel, rfl⟩
theorem dMO_flagsOf_24 : decode b_MO_flagsOf 24 = .ok (.goto (20), 3) ∧ 24 + 3 = 27 ∧ ((24 : Nat) : Int) + (20) = ((44 : Nat) : Int) := ⟨by decide +kernel, rfl, by decide⟩
theorem dMO_flagsOf_27 : decode b_MO_flagsOf 27 = .ok (.iload_n 0, 1) ∧ 27 + 1 = 28 := ⟨by decide +kernel, rfl⟩
theorem dMO_flagsOf_28 : decode b_MO_flagsOf 28 = .ok (.iconst 5, 1) ∧ 28 + 1 = 29 := ⟨by decide +kernel, rfl⟩
theorem dMO_flagsOf_29 : decode b_MO_flagsOf 29 = .ok (.if_icmp .lt (14), 3) ∧ 29 + 3 = 32 ∧ ((29 : Nat) : Int) + (14) = ((43 : Nat) : Int) := ⟨by decide +kernel, rfl, by decide⟩
theorem dMO_flagsOf_32 : decode b_MO_flagsOf 32 = .ok (.iload_n 0, 1) ∧ 32 + 1 = 33 := ⟨by decide +kernel, rfl⟩
theorem dMO_flagsOf_33 : decode b_MO_flagsOf 33 = .ok (.bipush (8), 2) ∧ 33 + 2 = 35 := ⟨by decide +kernel, rfl⟩
theorem dMO_flagsOf_35 : decode b_MO_flagsOf 35 = .ok (.if_icmp .ge (8), 3) ∧ 35 + 3 = 38 ∧ ((35 : Nat) : Int) + (8) = ((43 : Nat) : Int) := ⟨by decide +kernel, rfl, by decide⟩
theorem dMO_flagsOf_38 : decode b_MO_flagsOf 38 = .ok (.bipush (64), 2) ∧ 38 + 2 = 40 := ⟨by decide +kernel, rfl⟩
theorem dMO_flagsOf_40 : decode b_MO_flagsOf 40 = .ok (.goto (4), 3) ∧ 40 + 3 = 43 ∧ ((40 : Nat) : Int) + (4) = ((44 : Nat) : Int) := ⟨by decide +kernel, rfl, by decide⟩
theorem dMO_flagsOf_43 : decode b_MO_flagsOf 43 = .ok (.iconst 0, 1) ∧ 43 + 1 = 44 := ⟨by decide +kernel, rfl⟩
theorem dMO_flagsOf_44 : decode b_MO_flagsOf 44 = .ok (.ireturn, 1) ∧ 44 + 1 = 45 := ⟨by decide +kernel, rfl⟩
theorem dMO_eachOf_0 : decode b_MO_eachOf 0 = .ok (.iload_n 0, 1) ∧ 0 + 1 = 1 := ⟨by decide +kernel, rfl⟩
theorem dMO_eachOf_1 : decode b_MO_eachOf 1 = .ok (.iconst 4, 1) ∧ 1 + 1 = 2 := ⟨by decide +kernel, rfl⟩
theorem dMO_eachOf_2 : decode b_MO_eachOf 2 = .ok (.if_icmp .ne (7), 3) ∧ 2 + 3 = 5 ∧ ((2 : Nat) : Int) + (7) = ((9 : Nat) : Int) := ⟨by decide +kernel, rfl, by decide⟩
theorem dMO_eachOf_5 : decode b_MO_eachOf 5 = .ok (.iconst 2, 1) ∧ 5 + 1 = 6 := ⟨by decide +kernel, rfl⟩
theorem dMO_eachOf_6 : decode b_MO_eachOf 6 = .ok (.goto (31), 3) ∧ 6 + 3 = 9 ∧ ((6 : Nat) : Int) + (31) = ((37 : Nat) : Int) := ⟨by decide +kernel, rfl, by decide⟩
theorem dMO_eachOf_9 : decode b_MO_eachOf 9 = .ok (.iload_n 0, 1) ∧ 9 + 1 = 10 := ⟨by decide +kernel, rfl⟩
theorem dMO_eachOf_10 : decode b_MO_eachOf 10 = .ok (.iconst 5, 1) ∧ 10 + 1 = 11 := ⟨by decide +kernel, rfl⟩
theorem dMO_eachOf_11 : decode b_MO_eachOf 11 = .ok (.if_icmp .lt (14), 3) ∧ 11 + 3 = 14 ∧ ((11 : Nat) : Int) + (14) = ((25 : Nat) : Int) := ⟨by decide +kernel, rfl, by decide⟩
theorem dMO_eachOf_14 : decode b_MO_eachOf 14 = .ok (.iload_n 0, 1) ∧ 14 + 1 = 15 := ⟨by decide +kernel, rfl⟩
theorem dMO_eachOf_15 : decode b_MO_eachOf 15 = .ok (.bipush (8), 2) ∧ 15 + 2 = 17 := ⟨by decide +kernel, rfl⟩
theorem dMO_eachOf_17 : decode b_MO_eachOf 17 = .ok (.if_icmp .ge (8), 3) ∧ 17 + 3 = 20 ∧ ((17 : Nat) : Int) + (8) = ((25 : Nat) : Int) := ⟨by decide +kernel, rfl, by decide⟩
theorem dMO_eachOf_20 : decode b_MO_eachOf 20 = .ok (.bipush (12), 2) ∧ 20 + 2 = 22 := ⟨by decide +kernel, rfl⟩
theorem dMO_eachOf_22 : decode b_MO_eachOf 22 = .ok (.goto (15), 3) ∧ 22 + 3 = 25 ∧ ((22 : Nat) : Int) + (15) = ((37 : Nat) : Int) := ⟨by decide +kernel, rfl, by decide⟩
theorem dMO_eachOf_25 : decode b_MO_eachOf 25 = .ok (.iload_n 0, 1) ∧ 25 + 1 = 26 := ⟨by decide +kernel, rfl⟩
theorem dMO_eachOf_26 : decode b_MO_eachOf 26 = .ok (.bipush (8), 2) ∧ 26 + 2 = 28 := ⟨by decide +kernel, rfl⟩
theorem dMO_eachOf_28 : decode b_MO_eachOf 28 = .ok (.if_icmp .ne (8), 3) ∧ 28 + 3 = 31 ∧ ((28 : Nat) : Int) + (8) = ((36 : Nat) : Int) := ⟨by decide +kernel, rfl, by decide⟩
theorem dMO_eachOf_31 : decode b_MO_eachOf 31 = .ok (.bipush (16), 2) ∧ 31 + 2 = 33 := ⟨by decide +kernel, rfl⟩
theorem dMO_eachOf_33 : decode b_MO_eachOf 33 = .ok (.goto (4), 3) ∧ 33 + 3 = 36 ∧ ((33 : Nat) : Int) + (4) = ((37 : Nat) : Int) := ⟨by decide +kernel, rfl, by decide⟩
theorem dMO_eachOf_36 : decode b_MO_eachOf 36 = .ok (.iconst 0, 1) ∧ 36 + 1 = 37 := ⟨by decide +kernel, rfl⟩
theorem dMO_eachOf_37 : decode b_MO_eachOf 37 = .ok (.ireturn, 1) ∧ 37 + 1 = 38 := ⟨by decide +kernel, rfl⟩
theorem dMO_writeEntry_0 : decode b_MO_writeEntry 0 = .ok (.iload_n 1, 1) ∧ 0 + 1 = 1 := ⟨by decide +kernel, rfl⟩
theorem dMO_writeEntry_1 : decode b_MO_writeEntry 1 = .ok (.iconst 5, 1) ∧ 1 + 1 = 2 := ⟨by decide +kernel, rfl⟩
theorem dMO_writeEntry_2 : decode b_MO_writeEntry 2 = .ok (.if_icmp .lt (13), 3) ∧ 2 + 3 = 5 ∧ ((2 : Nat) : Int) + (13) = ((15 : Nat) : Int) := ⟨by decide +kernel, rfl, by decide⟩
theorem dMO_writeEntry_5 : decode b_MO_writeEntry 5 = .ok (.iload_n 1, 1) ∧ 5 + 1 = 6 := ⟨by decide +kernel, rfl⟩
theorem dMO_writeEntry_6 : decode b_MO_writeEntry 6 = .ok (.bipush (8), 2) ∧ 6 + 2 = 8 := ⟨by decide +kernel, rfl⟩
theorem dMO_writeEntry_8 : decode b_MO_writeEntry 8 = .ok (.if_icmp .ge (7), 3) ∧ 8 + 3 = 11 ∧ ((8 : Nat) : Int) + (7) = ((15 : Nat) : Int) := ⟨by decide +kernel, rfl, by decide⟩
theorem dMO_writeEntry_11 : decode b_MO_writeEntry 11 = .ok (.iconst 1, 1) ∧ 11 + 1 = 12 := ⟨by decide +kernel, rfl⟩
theorem dMO_writeEntry_12 : decode b_MO_writeEntry 12 = .ok (.goto (4), 3) ∧ 12 + 3 = 15 ∧ ((12 : Nat) : Int) + (4) = ((16 : Nat) : Int) := ⟨by decide +kernel, rfl, by decide⟩
theorem dMO_writeEntry_15 : decode b_MO_writeEntry 15 = .ok (.iconst 0, 1) ∧ 15 + 1 = 16 := ⟨by decide +kernel, rfl⟩
theorem dMO_writeEntry_16 : decode b_MO_writeEntry 16 = .ok (.istore 4, 2) ∧ 16 + 2 = 18 := ⟨by decide +kernel, rfl⟩
theorem dMO_writeEntry_18 : decode b_MO_writeEntry 18 = .ok (.aload_n 0, 1) ∧ 18 + 1 = 19 := ⟨by decide +kernel, rfl⟩
theorem dMO_writeEntry_19 : decode b_MO_writeEntry 19 = .ok (.iload_n 2, 1) ∧ 19 + 1 = 20 := ⟨by decide +kernel, rfl⟩
theorem dMO_writeEntry_20 : decode b_MO_writeEntry 20 = .ok (.aload_n 0, 1) ∧ 20 + 1 = 21 := ⟨by decide +kernel, rfl⟩
theorem dMO_writeEntry_21 : decode b_MO_writeEntry 21 = .ok (.getfield 104, 3) ∧ 21 + 3 = 24 := ⟨by decide +kernel, rfl⟩
theorem dMO_writeEntry_24 : decode b_MO_writeEntry 24 = .ok (.iload_n 1, 1) ∧ 24 + 1 = 25 := ⟨by decide +kernel, rfl⟩
theorem dMO_writeEntry_25 : decode b_MO_writeEntry 25 = .ok (.iaload, 1) ∧ 25 + 1 = 26 := ⟨by decide +kernel, rfl⟩
theorem dMO_writeEntry_26 : decode b_MO_writeEntry 26 = .ok (.invokevirtual 209, 3) ∧ 26 + 3 = 29 := ⟨by decide +kernel, rfl⟩
theorem dMO_writeEntry_29 : decode b_MO_writeEntry 29 = .ok (.aload_n 0, 1) ∧ 29 + 1 = 30 := ⟨by decide +kernel, rfl⟩
theorem dMO_writeEntry_30 : decode b_MO_writeEntry 30 = .ok (.iload_n 2, 1) ∧ 30 + 1 = 31 := ⟨by decide +kernel, rfl⟩
theorem dMO_writeEntry_31 : decode b_MO_writeEntry 31 = .ok (.iconst 4, 1) ∧ 31 + 1 = 32 := ⟨by decide +kernel, rfl⟩
theorem dMO_writeEntry_32 : decode b_MO_writeEntry 32 = .ok (.iadd, 1) ∧ 32 + 1 = 33 := ⟨by decide +kernel, rfl⟩
theorem dMO_writeEntry_33 : decode b_MO_writeEntry 33 = .ok (.iload_n 1, 1) ∧ 33 + 1 = 34 := ⟨by decide +kernel, rfl⟩
theorem dMO_writeEntry_34 : decode b_MO_writeEntry 34 = .ok (.invokestatic 216, 3) ∧ 34 + 3 = 37 := ⟨by decide +kernel, rfl⟩
theorem dMO_writeEntry_37 : decode b_MO_writeEntry 37 = .ok (.invokevirtual 209, 3) ∧ 37 + 3 = 40 := ⟨by decide +kernel, rfl⟩
theorem dMO_writeEntry_40 : decode b_MO_writeEntry 40 = .ok (.aload_n 0, 1) ∧ 40 + 1 = 41 := ⟨by decide +kernel, rfl⟩
theorem dMO_writeEntry_41 : decode b_MO_writeEntry 41 = .ok (.iload_n 2, 1) ∧ 41 + 1 = 42 := ⟨by decide +kernel, rfl⟩
theorem dMO_writeEntry_42 : decode b_MO_writeEntry 42 = .ok (.bipush (8), 2) ∧ 42 + 2 = 44 := ⟨by decide +kernel, rfl⟩
theorem dMO_writeEntry_44 : decode b_MO_writeEntry 44 = .ok (.iadd, 1) ∧ 44 + 1 = 45 := ⟨by decide +kernel, rfl⟩
theorem dMO_writeEntry_45 : decode b_MO_writeEntry 45 = .ok (.iload_n 1, 1) ∧ 45 + 1 = 46 := ⟨by decide +kernel, rfl⟩
theorem dMO_writeEntry_46 : decode b_MO_writeEntry 46 = .ok (.invokestatic 219, 3) ∧ 46 + 3 = 49 := ⟨by decide +kernel, rfl⟩
theorem dMO_writeEntry_49 : decode b_MO_writeEntry 49 = .ok (.invokevirtual 209, 3) ∧ 49 + 3 = 52 := ⟨by decide +kernel, rfl⟩
theorem dMO_writeEntry_52 : decode b_MO_writeEntry 52 = .ok (.aload_n 0, 1) ∧ 52 + 1 = 53 := ⟨by decide +kernel, rfl⟩
theorem dMO_writeEntry_53 : decode b_MO_writeEntry 53 = .ok (.iload_n 2, 1) ∧ 53 + 1 = 54 := ⟨by decide +kernel, rfl⟩
theorem dMO_writeEntry_54 : decode b_MO_writeEntry 54 = .ok (.bipush (16), 2) ∧ 54 + 2 = 56 := ⟨by decide +kernel, rfl⟩
theorem dMO_writeEntry_56 : decode b_MO_writeEntry 56 = .ok (.iadd, 1) ∧ 56 + 1 = 57 := ⟨by decide +kernel, rfl⟩
theorem dMO_writeEntry_57 : decode b_MO_writeEntry 57 = .ok (.aload_n 0, 1) ∧ 57 + 1 = 58 := ⟨by decide +kernel, rfl⟩
theorem dMO_writeEntry_58 : decode b_MO_writeEntry 58 = .ok (.getfield 83, 3) ∧ 58 + 3 = 61 := ⟨by decide +kernel, rfl⟩
theorem dMO_writeEntry_61 : decode b_MO_writeEntry 61 = .ok (.iload_n 1, 1) ∧ 61 + 1 = 62 := ⟨by decide +kernel, rfl⟩
theorem dMO_writeEntry_62 : decode b_MO_writeEntry 62 = .ok (.iaload, 1) ∧ 62 + 1 = 63 := ⟨by decide +kernel, rfl⟩
theorem dMO_writeEntry_63 : decode b_MO_writeEntry 63 = .ok (.invokevirtual 209, 3) ∧ 63 + 3 = 66 := ⟨by decide +kernel, rfl⟩
theorem dMO_writeEntry_66 : decode b_MO_writeEntry 66 = .ok (.aload_n 0, 1) ∧ 66 + 1 = 67 := ⟨by decide +kernel, rfl⟩
theorem dMO_writeEntry_67 : decode b_MO_writeEntry 67 = .ok (.iload_n 2, 1) ∧ 67 + 1 = 68 := ⟨by decide +kernel, rfl⟩
theorem dMO_writeEntry_68 : decode b_MO_writeEntry 68 = .ok (.bipush (20), 2) ∧ 68 + 2 = 70 := ⟨by decide +kernel, rfl⟩
theorem dMO_writeEntry_70 : decode b_MO_writeEntry 70 = .ok (.iadd, 1) ∧ 70 + 1 = 71 := ⟨by decide +kernel, rfl⟩
theorem dMO_writeEntry_71 : decode b_MO_writeEntry 71 = .ok (.aload_n 0, 1) ∧ 71 + 1 = 72 := ⟨by decide +kernel, rfl⟩
theorem dMO_writeEntry_72 : decode b_MO_writeEntry 72 = .ok (.getfield 86, 3) ∧ 72 + 3 = 75 := ⟨by decide +kernel, rfl⟩
theorem dMO_writeEntry_75 : decode b_MO_writeEntry 75 = .ok (.iload_n 1, 1) ∧ 75 + 1 = 76 := ⟨by decide +kernel, rfl⟩
theorem dMO_writeEntry_76 : decode b_MO_writeEntry 76 = .ok (.iaload, 1) ∧ 76 + 1 = 77 := ⟨by decide +kernel, rfl⟩
theorem dMO_writeEntry_77 : decode b_MO_writeEntry 77 = .ok (.invokevirtual 209, 3) ∧ 77 + 3 = 80 := ⟨by decide +kernel, rfl⟩
theorem dMO_writeEntry_80 : decode b_MO_writeEntry 80 = .ok (.aload_n 0, 1) ∧ 80 + 1 = 81 := ⟨by decide +kernel, rfl⟩
theorem dMO_writeEntry_81 : decode b_MO_writeEntry 81 = .ok (.iload_n 2, 1) ∧ 81 + 1 = 82 := ⟨by decide +kernel, rfl⟩
theorem dMO_writeEntry_82 : decode b_MO_writeEntry 82 = .ok (.bipush (24), 2) ∧ 82 + 2 = 84 := ⟨by decide +kernel, rfl⟩
theorem dMO_writeEntry_84 : decode b_MO_writeEntry 84 = .ok (.iadd, 1) ∧ 84 + 1 = 85 := ⟨by decide +kernel, rfl⟩
theorem dMO_writeEntry_85 : decode b_MO_writeEntry 85 = .ok (.iload 4, 2) ∧ 85 + 2 = 87 := ⟨by decide +kernel, rfl⟩
theorem dMO_writeEntry_87 : decode b_MO_writeEntry 87 = .ok (.ifCond .eq (13), 3) ∧ 87 + 3 = 90 ∧ ((87 : Nat) : Int) + (13) = ((100 : Nat) : Int) := ⟨by decide +kernel, rfl, by decide⟩
theorem dMO_writeEntry_90 : decode b_MO_writeEntry 90 = .ok (.aload_n 0, 1) ∧ 90 + 1 = 91 := ⟨by decide +kernel, rfl⟩
theorem dMO_writeEntry_91 : decode b_MO_writeEntry 91 = .ok (.getfield 89, 3) ∧ 91 + 3 = 94 := ⟨by decide +kernel, rfl⟩
theorem dMO_writeEntry_94 : decode b_MO_writeEntry 94 = .ok (.bipush (8), 2) ∧ 94 + 2 = 96 := ⟨by decide +kernel, rfl⟩
theorem dMO_writeEntry_96 : decode b_MO_writeEntry 96 = .ok (.iaload, 1) ∧ 96 + 1 = 97 := ⟨by decide +kernel, rfl⟩
theorem dMO_writeEntry_97 : decode b_MO_writeEntry 97 = .ok (.goto (20), 3) ∧ 97 + 3 = 100 ∧ ((97 : Nat) : Int) + (20) = ((117 : Nat) : Int) := ⟨by decide +kernel, rfl, by decide⟩
theorem dMO_writeEntry_100 : decode b_MO_writeEntry 100 = .ok (.iload_n 1, 1) ∧ 100 + 1 = 101 := ⟨by decide +kernel, rfl⟩
theorem dMO_writeEntry_101 : decode b_MO_writeEntry 101 = .ok (.bipush (8), 2) ∧ 101 + 2 = 103 := ⟨by decide +kernel, rfl⟩
theorem dMO_writeEntry_103 : decode b_MO_writeEntry 103 = .ok (.if_icmp .ne (13), 3) ∧ 103 + 3 = 106 ∧ ((103 : Nat) : Int) + (13) = ((116 : Nat) : Int) := ⟨by decide +kernel, rfl, by decide⟩
theorem dMO_writeEntry_106 : decode b_MO_writeEntry 106 = .ok (.aload_n 0, 1) ∧ 106 + 1 = 107 := ⟨by decide +kernel, rfl⟩
theorem dMO_writeEntry_107 : decode b_MO_writeEntry 107 = .ok (.getfield 89, 3) ∧ 107 + 3 = 110 := ⟨by decide +kernel, rfl⟩
theorem dMO_writeEntry_110 : decode b_MO_writeEntry 110 = .ok (.bipush (9), 2) ∧ 110 + 2 = 112 := ⟨by decide +kernel, rfl⟩
theorem dMO_writeEntry_112 : decode b_MO_writeEntry 112 = .ok (.iaload, 1) ∧ 112 + 1 = 113 := ⟨by decide +kernel, rfl⟩
theorem dMO_writeEntry_113 : decode b_MO_writeEntry 113 = .ok (.goto (4), 3) ∧ 113 + 3 = 116 ∧ ((113 : Nat) : Int) + (4) = ((117 : Nat) : Int) := ⟨by decide +kernel, rfl, by decide⟩
theorem dMO_writeEntry_116 : decode b_MO_writeEntry 116 = .ok (.iconst 0, 1) ∧ 116 + 1 = 117 := ⟨by decide +kernel, rfl⟩
theorem dMO_writeEntry_117 : decode b_MO_writeEntry 117 = .ok (.invokevirtual 209, 3) ∧ 117 + 3 = 120 := ⟨by decide +kernel, rfl⟩
theorem dMO_writeEntry_120 : decode b_MO_writeEntry 120 = .ok (.aload_n 0, 1) ∧ 120 + 1 = 121 := ⟨by decide +kernel, rfl⟩
theorem dMO_writeEntry_121 : decode b_MO_writeEntry 121 = .ok (.iload_n 2, 1) ∧ 121 + 1 = 122 := ⟨by decide +kernel, rfl⟩
theorem dMO_writeEntry_122 : decode b_MO_writeEntry 122 = .ok (.bipush (28), 2) ∧ 122 + 2 = 124 := ⟨by decide +kernel, rfl⟩
theorem dMO_writeEntry_124 : decode b_MO_writeEntry 124 = .ok (.iadd, 1) ∧ 124 + 1 = 125 := ⟨by decide +kernel, rfl⟩
theorem dMO_writeEntry_125 : decode b_MO_writeEntry 125 = .ok (.iload 4, 2) ∧ 125 + 2 = 127 := ⟨by decide +kernel, rfl⟩
theorem dMO_writeEntry_127 : decode b_MO_writeEntry 127 = .ok (.ifCond .eq (14), 3) ∧ 127 + 3 = 130 ∧ ((127 : Nat) : Int) + (14) = ((141 : Nat) : Int) := ⟨by decide +kernel, rfl, by decide⟩
theorem dMO_writeEntry_130 : decode b_MO_writeEntry 130 = .ok (.aload_n 0, 1) ∧ 130 + 1 = 131 := ⟨by decide +kernel, rfl⟩
theorem dMO_writeEntry_131 : decode b_MO_writeEntry 131 = .ok (.getfield 89, 3) ∧ 131 + 3 = 134 := ⟨by decide +kernel, rfl⟩
theorem dMO_writeEntry_134 : decode b_MO_writeEntry 134 = .ok (.iload_n 1, 1) ∧ 134 + 1 = 135 := ⟨by decide +kernel, rfl⟩
theorem dMO_writeEntry_135 : decode b_MO_writeEntry 135 = .ok (.iconst 5, 1) ∧ 135 + 1 = 136 := ⟨by decide +kernel, rfl⟩
theorem dMO_writeEntry_136 : decode b_MO_writeEntry 136 = .ok (.isub, 1) ∧ 136 + 1 = 137 := ⟨by decide +kernel, rfl⟩
theorem dMO_writeEntry_137 : decode b_MO_writeEntry 137 = .ok (.iaload, 1) ∧ 137 + 1 = 138 := ⟨by decide +kernel, rfl⟩
theorem dMO_writeEntry_138 : decode b_MO_writeEntry 138 = .ok (.goto (16), 3) ∧ 138 + 3 = 141 ∧ ((138 : Nat) : Int) + (16) = ((154 : Nat) : Int) := ⟨by decide +kernel, rfl, by decide⟩
theorem dMO_writeEntry_141 : decode b_MO_writeEntry 141 = .ok (.iload_n 1, 1) ∧ 141 + 1 = 142 := ⟨by decide +kernel, rfl⟩
theorem dMO_writeEntry_142 : decode b_MO_writeEntry 142 = .ok (.bipush (8), 2) ∧ 142 + 2 = 144 := ⟨by decide +kernel, rfl⟩
theorem dMO_writeEntry_144 : decode b_MO_writeEntry 144 = .ok (.if_icmp .ne (9), 3) ∧ 144 + 3 = 147 ∧ ((144 : Nat) : Int) + (9) = ((153 : Nat) : Int) := ⟨by decide +kernel, rfl, by decide⟩
theorem dMO_writeEntry_147 : decode b_MO_writeEntry 147 = .ok (.iconst 1, 1) ∧ 147 + 1 = 148 := ⟨by decide +kernel, rfl⟩
theorem dMO_writeEntry_148 : decode b_MO_writeEntry 148 = .ok (.iload_n 3, 1) ∧ 148 + 1 = 149 := ⟨by decide +kernel, rfl⟩
theorem dMO_writeEntry_149 : decode b_MO_writeEntry 149 = .ok (.iadd, 1) ∧ 149 + 1 = 150 := ⟨by decide +kernel, rfl⟩
theorem dMO_writeEntry_150 : decode b_MO_writeEntry 150 = .ok (.goto (4), 3) ∧ 150 + 3 = 153 ∧ ((150 : Nat) : Int) + (4) = ((154 : Nat) : Int) := ⟨by decide +kernel, rfl, by decide⟩
theorem dMO_writeEntry_153 : decode b_MO_writeEntry 153 = .ok (.iconst 0, 1) ∧ 153 + 1 = 154 := ⟨by decide +kernel, rfl⟩
theorem dMO_writeEntry_154 : decode b_MO_writeEntry 154 = .ok (.invokevirtual 209, 3) ∧ 154 + 3 = 157 := ⟨by decide +kernel, rfl⟩
theorem dMO_writeEntry_157 : decode b_MO_writeEntry 157 = .ok (.aload_n 0, 1) ∧ 157 + 1 = 158 := ⟨by decide +kernel, rfl⟩
theorem dMO_writeEntry_158 : decode b_MO_writeEntry 158 = .ok (.iload_n 2, 1) ∧ 158 + 1 = 159 := ⟨by decide +kernel, rfl⟩
theorem dMO_writeEntry_159 : decode b_MO_writeEntry 159 = .ok (.bipush (32), 2) ∧ 159 + 2 = 161 := ⟨by decide +kernel, rfl⟩
theorem dMO_writeEntry_161 : decode b_MO_writeEntry 161 = .ok (.iadd, 1) ∧ 161 + 1 = 162 := ⟨by decide +kernel, rfl⟩
theorem dMO_writeEntry_162 : decode b_MO_writeEntry 162 = .ok (.iload_n 1, 1) ∧ 162 + 1 = 163 := ⟨by decide +kernel, rfl⟩
theorem dMO_writeEntry_163 : decode b_MO_writeEntry 163 = .ok (.iconst 4, 1) ∧ 163 + 1 = 164 := ⟨by decide +kernel, rfl⟩
theorem dMO_writeEntry_164 : decode b_MO_writeEntry 164 = .ok (.if_icmp .ge (12), 3) ∧ 164 + 3 = 167 ∧ ((164 : Nat) : Int) + (12) = ((176 : Nat) : Int) := ⟨by decide +kernel, rfl, by decide⟩
theorem dMO_writeEntry_167 : decode b_MO_writeEntry 167 = .ok (.aload_n 0, 1) ∧ 167 + 1 = 168 := ⟨by decide +kernel, rfl⟩
theorem dMO_writeEntry_168 : decode b_MO_writeEntry 168 = .ok (.getfield 16, 3) ∧ 168 + 3 = 171 := ⟨by decide +kernel, rfl⟩
theorem dMO_writeEntry_171 : decode b_MO_writeEntry 171 = .ok (.iload_n 1, 1) ∧ 171 + 1 = 172 := ⟨by decide +kernel, rfl⟩
theorem dMO_writeEntry_172 : decode b_MO_writeEntry 172 = .ok (.iaload, 1) ∧ 172 + 1 = 173 := ⟨by decide +kernel, rfl⟩
theorem dMO_writeEntry_173 : decode b_MO_writeEntry 173 = .ok (.goto (23), 3) ∧ 173 + 3 = 176 ∧ ((173 : Nat) : Int) + (23) = ((196 : Nat) : Int) := ⟨by decide +kernel, rfl, by decide⟩
theorem dMO_writeEntry_176 : decode b_MO_writeEntry 176 = .ok (.iload_n 1, 1) ∧ 176 + 1 = 177 := ⟨by decide +kernel, rfl⟩
theorem dMO_writeEntry_177 : decode b_MO_writeEntry 177 = .ok (.iconst 4, 1) ∧ 177 + 1 = 178 := ⟨by decide +kernel, rfl⟩
theorem dMO_writeEntry_178 : decode b_MO_writeEntry 178 = .ok (.if_icmp .ne (7), 3) ∧ 178 + 3 = 181 ∧ ((178 : Nat) : Int) + (7) = ((185 : Nat) : Int) := ⟨by decide +kernel, rfl, by decide⟩
theorem dMO_writeEntry_181 : decode b_MO_writeEntry 181 = .ok (.iconst 2, 1) ∧ 181 + 1 = 182 := ⟨by decide +kernel, rfl⟩
theorem dMO_writeEntry_182 : decode b_MO_writeEntry 182 = .ok (.goto (14), 3) ∧ 182 + 3 = 185 ∧ ((182 : Nat) : Int) + (14) = ((196 : Nat) : Int) := ⟨by decide +kernel, rfl, by decide⟩
theorem dMO_writeEntry_185 : decode b_MO_writeEntry 185 = .ok (.iload_n 1, 1) ∧ 185 + 1 = 186 := ⟨by decide +kernel, rfl⟩
theorem dMO_writeEntry_186 : decode b_MO_writeEntry 186 = .ok (.bipush (9), 2) ∧ 186 + 2 = 188 := ⟨by decide +kernel, rfl⟩
theorem dMO_writeEntry_188 : decode b_MO_writeEntry 188 = .ok (.if_icmp .ge (7), 3) ∧ 188 + 3 = 191 ∧ ((188 : Nat) : Int) + (7) = ((195 : Nat) : Int) := ⟨by decide +kernel, rfl, by decide⟩
theorem dMO_writeEntry_191 : decode b_MO_writeEntry 191 = .ok (.iconst 4, 1) ∧ 191 + 1 = 192 := ⟨by decide +kernel, rfl⟩
theorem dMO_writeEntry_192 : decode b_MO_writeEntry 192 = .ok (.goto (4), 3) ∧ 192 + 3 = 195 ∧ ((192 : Nat) : Int) + (4) = ((196 : Nat) : Int) := ⟨by decide +kernel, rfl, by decide⟩
theorem dMO_writeEntry_195 : decode b_MO_writeEntry 195 = .ok (.iconst 1, 1) ∧ 195 + 1 = 196 := ⟨by decide +kernel, rfl⟩
theorem dMO_writeEntry_196 : decode b_MO_writeEntry 196 = .ok (.invokevirtual 209, 3) ∧ 196 + 3 = 199 := ⟨by decide +kernel, rfl⟩
theorem dMO_writeEntry_199 : decode b_MO_writeEntry 199 = .ok (.aload_n 0, 1) ∧ 199 + 1 = 200 := ⟨by decide +kernel, rfl⟩
theorem dMO_writeEntry_200 : decode b_MO_writeEntry 200 = .ok (.iload_n 2, 1) ∧ 200 + 1 = 201 := ⟨by decide +kernel, rfl⟩
theorem dMO_writeEntry_201 : decode b_MO_writeEntry 201 = .ok (.bipush (36), 2) ∧ 201 + 2 = 203 := ⟨by decide +kernel, rfl⟩
theorem dMO_writeEntry_203 : decode b_MO_writeEntry 203 = .ok (.iadd, 1) ∧ 203 + 1 = 204 := ⟨by decide +kernel, rfl⟩
theorem dMO_writeEntry_204 : decode b_MO_writeEntry 204 = .ok (.iload_n 1, 1) ∧ 204 + 1 = 205 := ⟨by decide +kernel, rfl⟩
theorem dMO_writeEntry_205 : decode b_MO_writeEntry 205 = .ok (.invokestatic 222, 3) ∧ 205 + 3 = 208 := ⟨by decide +kernel, rfl⟩
theorem dMO_writeEntry_208 : decode b_MO_writeEntry 208 = .ok (.invokevirtual 209, 3) ∧ 208 + 3 = 211 := ⟨by decide +kernel, rfl⟩
theorem dMO_writeEntry_211 : decode b_MO_writeEntry 211 = .ok (.return_, 1) ∧ 211 + 1 = 212 := ⟨by decide +kernel, rfl⟩
theorem dMO_writeRelocations_0 : decode b_MO_writeRelocations 0 = .ok (.aload_n 0, 1) ∧ 0 + 1 = 1 := ⟨by decide +kernel, rfl⟩
theorem dMO_writeRelocations_1 : decode b_MO_writeRelocations 1 = .ok (.getfield 83, 3) ∧ 1 + 3 = 4 := ⟨by decide +kernel, rfl⟩
theorem dMO_writeRelocations_4 : decode b_MO_writeRelocations 4 = .ok (.iconst 5, 1) ∧ 4 + 1 = 5 := ⟨by decide +kernel, rfl⟩
theorem dMO_writeRelocations_5 : decode b_MO_writeRelocations 5 = .ok (.iload_n 1, 1) ∧ 5 + 1 = 6 := ⟨by decide +kernel, rfl⟩
theorem dMO_writeRelocations_6 : decode b_MO_writeRelocations 6 = .ok (.iadd, 1) ∧ 6 + 1 = 7 := ⟨by decide +kernel, rfl⟩
theorem dMO_writeRelocations_7 : decode b_MO_writeRelocations 7 = .ok (.iaload, 1) ∧ 7 + 1 = 8 := ⟨by decide +kernel, rfl⟩
theorem dMO_writeRelocations_8 : decode b_MO_writeRelocations 8 = .ok (.istore_n 2, 1) ∧ 8 + 1 = 9 := ⟨by decide +kernel, rfl⟩
theorem dMO_writeRelocations_9 : decode b_MO_writeRelocations 9 = .ok (.iconst 0, 1) ∧ 9 + 1 = 10 := ⟨by decide +kernel, rfl⟩
theorem dMO_writeRelocations_10 : decode b_MO_writeRelocations 10 = .ok (.istore_n 3, 1) ∧ 10 + 1 = 11 := ⟨by decide +kernel, rfl⟩
theorem dMO_writeRelocations_11 : decode b_MO_writeRelocations 11 = .ok (.iload_n 3, 1) ∧ 11 + 1 = 12 := ⟨by decide +kernel, rfl⟩
theorem dMO_writeRelocations_12 : decode b_MO_writeRelocations 12 = .ok (.aload_n 0, 1) ∧ 12 + 1 = 13 := ⟨by decide +kernel, rfl⟩
theorem dMO_writeRelocations_13 : decode b_MO_writeRelocations 13 = .ok (.getfield 64, 3) ∧ 13 + 3 = 16 := ⟨by decide +kernel, rfl⟩
theorem dMO_writeRelocations_16 : decode b_MO_writeRelocations 16 = .ok (.iconst 0, 1) ∧ 16 + 1 = 17 := ⟨by decide +kernel, rfl⟩
theorem dMO_writeRelocations_17 : decode b_MO_writeRelocations 17 = .ok (.iaload, 1) ∧ 17 + 1 = 18 := ⟨by decide +kernel, rfl⟩
theorem dMO_writeRelocations_18 : decode b_MO_writeRelocations 18 = .ok (.if_icmp .ge (95), 3) ∧ 18 + 3 = 21 ∧ ((18 : Nat) : Int) + (95) = ((113 : Nat) : Int) := ⟨by decide +kernel, rfl, by decide⟩
theorem dMO_writeRelocations_21 : decode b_MO_writeRelocations 21 = .ok (.aload_n 0, 1) ∧ 21 + 1 = 22 := ⟨by decide +kernel, rfl⟩
theorem dMO_writeRelocations_22 : decode b_MO_writeRelocations 22 = .ok (.getfield 49, 3) ∧ 22 + 3 = 25 := ⟨by decide +kernel, rfl⟩
theorem dMO_writeRelocations_25 : decode b_MO_writeRelocations 25 = .ok (.iload_n 3, 1) ∧ 25 + 1 = 26 := ⟨by decide +kernel, rfl⟩
theorem dMO_writeRelocations_26 : decode b_MO_writeRelocations 26 = .ok (.iaload, 1) ∧ 26 + 1 = 27 := ⟨by decide +kernel, rfl⟩
theorem dMO_writeRelocations_27 : decode b_MO_writeRelocations 27 = .ok (.iload_n 1, 1) ∧ 27 + 1 = 28 := ⟨by decide +kernel, rfl⟩
theorem dMO_writeRelocations_28 : decode b_MO_writeRelocations 28 = .ok (.if_icmp .eq (6), 3) ∧ 28 + 3 = 31 ∧ ((28 : Nat) : Int) + (6) = ((34 : Nat) : Int) := ⟨by decide +kernel, rfl, by decide⟩
theorem dMO_writeRelocations_31 : decode b_MO_writeRelocations 31 = .ok (.goto (76), 3) ∧ 31 + 3 = 34 ∧ ((31 : Nat) : Int) + (76) = ((107 : Nat) : Int) := ⟨by decide +kernel, rfl, by decide⟩
theorem dMO_writeRelocations_34 : decode b_MO_writeRelocations 34 = .ok (.aload_n 0, 1) ∧ 34 + 1 = 35 := ⟨by decide +kernel, rfl⟩
theorem dMO_writeRelocations_35 : decode b_MO_writeRelocations 35 = .ok (.iload_n 2, 1) ∧ 35 + 1 = 36 := ⟨by decide +kernel, rfl⟩
theorem dMO_writeRelocations_36 : decode b_MO_writeRelocations 36 = .ok (.aload_n 0, 1) ∧ 36 + 1 = 37 := ⟨by decide +kernel, rfl⟩
theorem dMO_writeRelocations_37 : decode b_MO_writeRelocations 37 = .ok (.getfield 52, 3) ∧ 37 + 3 = 40 := ⟨by decide +kernel, rfl⟩
theorem dMO_writeRelocations_40 : decode b_MO_writeRelocations 40 = .ok (.iload_n 3, 1) ∧ 40 + 1 = 41 := ⟨by decide +kernel, rfl⟩
theorem dMO_writeRelocations_41 : decode b_MO_writeRelocations 41 = .ok (.iaload, 1) ∧ 41 + 1 = 42 := ⟨by decide +kernel, rfl⟩
theorem dMO_writeRelocations_42 : decode b_MO_writeRelocations 42 = .ok (.invokevirtual 209, 3) ∧ 42 + 3 = 45 := ⟨by decide +kernel, rfl⟩
theorem dMO_writeRelocations_45 : decode b_MO_writeRelocations 45 = .ok (.aload_n 0, 1) ∧ 45 + 1 = 46 := ⟨by decide +kernel, rfl⟩
theorem dMO_writeRelocations_46 : decode b_MO_writeRelocations 46 = .ok (.iload_n 2, 1) ∧ 46 + 1 = 47 := ⟨by decide +kernel, rfl⟩
theorem dMO_writeRelocations_47 : decode b_MO_writeRelocations 47 = .ok (.iconst 4, 1) ∧ 47 + 1 = 48 := ⟨by decide +kernel, rfl⟩
theorem dMO_writeRelocations_48 : decode b_MO_writeRelocations 48 = .ok (.iadd, 1) ∧ 48 + 1 = 49 := ⟨by decide +kernel, rfl⟩
theorem dMO_writeRelocations_49 : decode b_MO_writeRelocations 49 = .ok (.sipush (256), 3) ∧ 49 + 3 = 52 := ⟨by decide +kernel, rfl⟩
theorem dMO_writeRelocations_52 : decode b_MO_writeRelocations 52 = .ok (.aload_n 0, 1) ∧ 52 + 1 = 53 := ⟨by decide +kernel, rfl⟩
theorem dMO_writeRelocations_53 : decode b_MO_writeRelocations 53 = .ok (.getfield 58, 3) ∧ 53 + 3 = 56 := ⟨by decide +kernel, rfl⟩
theorem dMO_writeRelocations_56 : decode b_MO_writeRelocations 56 = .ok (.iload_n 3, 1) ∧ 56 + 1 = 57 := ⟨by decide +kernel, rfl⟩
theorem dMO_writeRelocations_57 : decode b_MO_writeRelocations 57 = .ok (.iaload, 1) ∧ 57 + 1 = 58 := ⟨by decide +kernel, rfl⟩
theorem dMO_writeRelocations_58 : decode b_MO_writeRelocations 58 = .ok (.iconst (-1), 1) ∧ 58 + 1 = 59 := ⟨by decide +kernel, rfl⟩
theorem dMO_writeRelocations_59 : decode b_MO_writeRelocations 59 = .ok (.if_icmp .ne (7), 3) ∧ 59 + 3 = 62 ∧ ((59 : Nat) : Int) + (7) = ((66 : Nat) : Int) := ⟨by decide +kernel, rfl, by decide⟩
theorem dMO_writeRelocations_62 : decode b_MO_writeRelocations 62 = .ok (.iconst 0, 1) ∧ 62 + 1 = 63 := ⟨by decide +kernel, rfl⟩
theorem dMO_writeRelocations_63 : decode b_MO_writeRelocations 63 = .ok (.goto (16), 3) ∧ 63 + 3 = 66 ∧ ((63 : Nat) : Int) + (16) = ((79 : Nat) : Int) := ⟨by decide +kernel, rfl, by decide⟩
theorem dMO_writeRelocations_66 : decode b_MO_writeRelocations 66 = .ok (.iconst 1, 1) ∧ 66 + 1 = 67 := ⟨by decide +kernel, rfl⟩
theorem dMO_writeRelocations_67 : decode b_MO_writeRelocations 67 = .ok (.aload_n 0, 1) ∧ 67 + 1 = 68 := ⟨by decide +kernel, rfl⟩
theorem dMO_writeRelocations_68 : decode b_MO_writeRelocations 68 = .ok (.getfield 101, 3) ∧ 68 + 3 = 71 := ⟨by decide +kernel, rfl⟩
theorem dMO_writeRelocations_71 : decode b_MO_writeRelocations 71 = .ok (.aload_n 0, 1) ∧ 71 + 1 = 72 := ⟨by decide +kernel, rfl⟩
theorem dMO_writeRelocations_72 : decode b_MO_writeRelocations 72 = .ok (.getfield 58, 3) ∧ 72 + 3 = 75 := ⟨by decide +kernel, rfl⟩
theorem dMO_writeRelocations_75 : decode b_MO_writeRelocations 75 = .ok (.iload_n 3, 1) ∧ 75 + 1 = 76 := ⟨by decide +kernel, rfl⟩
theorem dMO_writeRelocations_76 : decode b_MO_writeRelocations 76 = .ok (.iaload, 1) ∧ 76 + 1 = 77 := ⟨by decide +kernel, rfl⟩
theorem dMO_writeRelocations_77 : decode b_MO_writeRelocations 77 = .ok (.iaload, 1) ∧ 77 + 1 = 78 := ⟨by decide +kernel, rfl⟩
theorem dMO_writeRelocations_78 : decode b_MO_writeRelocations 78 = .ok (.iadd, 1) ∧ 78 + 1 = 79 := ⟨by decide +kernel, rfl⟩
theorem dMO_writeRelocations_79 : decode b_MO_writeRelocations 79 = .ok (.imul, 1) ∧ 79 + 1 = 80 := ⟨by decide +kernel, rfl⟩
theorem dMO_writeRelocations_80 : decode b_MO_writeRelocations 80 = .ok (.aload_n 0, 1) ∧ 80 + 1 = 81 := ⟨by decide +kernel, rfl⟩
theorem dMO_writeRelocations_81 : decode b_MO_writeRelocations 81 = .ok (.getfield 55, 3) ∧ 81 + 3 = 84 := ⟨by decide +kernel, rfl⟩
theorem dMO_writeRelocations_84 : decode b_MO_writeRelocations 84 = .ok (.iload_n 3, 1) ∧ 84 + 1 = 85 := ⟨by decide +kernel, rfl⟩
theorem dMO_writeRelocations_85 : decode b_MO_writeRelocations 85 = .ok (.iaload, 1) ∧ 85 + 1 = 86 := ⟨by decide +kernel, rfl⟩
theorem dMO_writeRelocations_86 : decode b_MO_writeRelocations 86 = .ok (.iadd, 1) ∧ 86 + 1 = 87 := ⟨by decide +kernel, rfl⟩
theorem dMO_writeRelocations_87 : decode b_MO_writeRelocations 87 = .ok (.invokevirtual 209, 3) ∧ 87 + 3 = 90 := ⟨by decide +kernel, rfl⟩
theorem dMO_writeRelocations_90 : decode b_MO_writeRelocations 90 = .ok (.aload_n 0, 1) ∧ 90 + 1 = 91 := ⟨by decide +kernel, rfl⟩
theorem dMO_writeRelocations_91 : decode b_MO_writeRelocations 91 = .ok (.iload_n 2, 1) ∧ 91 + 1 = 92 := ⟨by decide +kernel, rfl⟩
theorem dMO_writeRelocations_92 : decode b_MO_writeRelocations 92 = .ok (.bipush (8), 2) ∧ 92 + 2 = 94 := ⟨by decide +kernel, rfl⟩
theorem dMO_writeRelocations_94 : decode b_MO_writeRelocations 94 = .ok (.iadd, 1) ∧ 94 + 1 = 95 := ⟨by decide +kernel, rfl⟩
theorem dMO_writeRelocations_95 : decode b_MO_writeRelocations 95 = .ok (.aload_n 0, 1) ∧ 95 + 1 = 96 := ⟨by decide +kernel, rfl⟩
theorem dMO_writeRelocations_96 : decode b_MO_writeRelocations 96 = .ok (.getfield 61, 3) ∧ 96 + 3 = 99 := ⟨by decide +kernel, rfl⟩
theorem dMO_writeRelocations_99 : decode b_MO_writeRelocations 99 = .ok (.iload_n 3, 1) ∧ 99 + 1 = 100 := ⟨by decide +kernel, rfl⟩
theorem dMO_writeRelocations_100 : decode b_MO_writeRelocations 100 = .ok (.iaload, 1) ∧ 100 + 1 = 101 := ⟨by decide +kernel, rfl⟩
theorem dMO_writeRelocations_101 : decode b_MO_writeRelocations 101 = .ok (.invokevirtual 209, 3) ∧ 101 + 3 = 104 := ⟨by decide +kernel, rfl⟩
theorem dMO_writeRelocations_104 : decode b_MO_writeRelocations 104 = .ok (.iinc 2 (12), 3) ∧ 104 + 3 = 107 := ⟨by decide +kernel, rfl⟩
theorem dMO_writeRelocations_107 : decode b_MO_writeRelocations 107 = .ok (.iinc 3 (1), 3) ∧ 107 + 3 = 110 := ⟨by decide +kernel, rfl⟩
theorem dMO_writeRelocations_110 : decode b_MO_writeRelocations 110 = .ok (.goto (-99), 3) ∧ 110 + 3 = 113 ∧ ((110 : Nat) : Int) + (-99) = ((11 : Nat) : Int) := ⟨by decide +kernel, rfl, by decide⟩
theorem dMO_writeRelocations_113 : decode b_MO_writeRelocations 113 = .ok (.return_, 1) ∧ 113 + 1 = 114 := ⟨by decide +kernel, rfl⟩
theorem dMO_write_0 : decode b_MO_write 0 = .ok (.aload_n 0, 1) ∧ 0 + 1 = 1 := ⟨by decide +kernel, rfl⟩
theorem dMO_write_1 : decode b_MO_write 1 = .ok (.invokevirtual 227, 3) ∧ 1 + 3 = 4 := ⟨by decide +kernel, rfl⟩
theorem dMO_write_4 : decode b_MO_write 4 = .ok (.istore_n 1, 1) ∧ 4 + 1 = 5 := ⟨by decide +kernel, rfl⟩
theorem dMO_write_5 : decode b_MO_write 5 = .ok (.iload_n 1, 1) ∧ 5 + 1 = 6 := ⟨by decide +kernel, rfl⟩
theorem dMO_write_6 : decode b_MO_write 6 = .ok (.ifCond .eq (5), 3) ∧ 6 + 3 = 9 ∧ ((6 : Nat) : Int) + (5) = ((11 : Nat) : Int) := ⟨by decide +kernel, rfl, by decide⟩
theorem dMO_write_9 : decode b_MO_write 9 = .ok (.iload_n 1, 1) ∧ 9 + 1 = 10 := ⟨by decide +kernel, rfl⟩
theorem dMO_write_10 : decode b_MO_write 10 = .ok (.ireturn, 1) ∧ 10 + 1 = 11 := ⟨by decide +kernel, rfl⟩
theorem dMO_write_11 : decode b_MO_write 11 = .ok (.aload_n 0, 1) ∧ 11 + 1 = 12 := ⟨by decide +kernel, rfl⟩
theorem dMO_write_12 : decode b_MO_write 12 = .ok (.invokevirtual 230, 3) ∧ 12 + 3 = 15 := ⟨by decide +kernel, rfl⟩
theorem dMO_write_15 : decode b_MO_write 15 = .ok (.istore_n 2, 1) ∧ 15 + 1 = 16 := ⟨by decide +kernel, rfl⟩
theorem dMO_write_16 : decode b_MO_write 16 = .ok (.iload_n 2, 1) ∧ 16 + 1 = 17 := ⟨by decide +kernel, rfl⟩
theorem dMO_write_17 : decode b_MO_write 17 = .ok (.bipush (40), 2) ∧ 17 + 2 = 19 := ⟨by decide +kernel, rfl⟩
theorem dMO_write_19 : decode b_MO_write 19 = .ok (.aload_n 0, 1) ∧ 19 + 1 = 20 := ⟨by decide +kernel, rfl⟩
theorem dMO_write_20 : decode b_MO_write 20 = .ok (.getfield 195, 3) ∧ 20 + 3 = 23 := ⟨by decide +kernel, rfl⟩
theorem dMO_write_23 : decode b_MO_write 23 = .ok (.imul, 1) ∧ 23 + 1 = 24 := ⟨by decide +kernel, rfl⟩
theorem dMO_write_24 : decode b_MO_write 24 = .ok (.iadd, 1) ∧ 24 + 1 = 25 := ⟨by decide +kernel, rfl⟩
theorem dMO_write_25 : decode b_MO_write 25 = .ok (.sipush (8192), 3) ∧ 25 + 3 = 28 := ⟨by decide +kernel, rfl⟩
theorem dMO_write_28 : decode b_MO_write 28 = .ok (.if_icmp .le (6), 3) ∧ 28 + 3 = 31 ∧ ((28 : Nat) : Int) + (6) = ((34 : Nat) : Int) := ⟨by decide +kernel, rfl, by decide⟩
theorem dMO_write_31 : decode b_MO_write 31 = .ok (.bipush (-4), 2) ∧ 31 + 2 = 33 := ⟨by decide +kernel, rfl⟩
theorem dMO_write_33 : decode b_MO_write 33 = .ok (.ireturn, 1) ∧ 33 + 1 = 34 := ⟨by decide +kernel, rfl⟩
theorem dMO_write_34 : decode b_MO_write 34 = .ok (.aload_n 0, 1) ∧ 34 + 1 = 35 := ⟨by decide +kernel, rfl⟩
theorem dMO_write_35 : decode b_MO_write 35 = .ok (.invokevirtual 189, 3) ∧ 35 + 3 = 38 := ⟨by decide +kernel, rfl⟩
theorem dMO_write_38 : decode b_MO_write 38 = .ok (.istore_n 3, 1) ∧ 38 + 1 = 39 := ⟨by decide +kernel, rfl⟩
theorem dMO_write_39 : decode b_MO_write 39 = .ok (.aload_n 0, 1) ∧ 39 + 1 = 40 := ⟨by decide +kernel, rfl⟩
theorem dMO_write_40 : decode b_MO_write 40 = .ok (.iload_n 2, 1) ∧ 40 + 1 = 41 := ⟨by decide +kernel, rfl⟩
theorem dMO_write_41 : decode b_MO_write 41 = .ok (.bipush (40), 2) ∧ 41 + 2 = 43 := ⟨by decide +kernel, rfl⟩
theorem dMO_write_43 : decode b_MO_write 43 = .ok (.aload_n 0, 1) ∧ 43 + 1 = 44 := ⟨by decide +kernel, rfl⟩
theorem dMO_write_44 : decode b_MO_write 44 = .ok (.getfield 195, 3) ∧ 44 + 3 = 47 := ⟨by decide +kernel, rfl⟩
theorem dMO_write_47 : decode b_MO_write 47 = .ok (.imul, 1) ∧ 47 + 1 = 48 := ⟨by decide +kernel, rfl⟩
theorem dMO_write_48 : decode b_MO_write 48 = .ok (.iadd, 1) ∧ 48 + 1 = 49 := ⟨by decide +kernel, rfl⟩
theorem dMO_write_49 : decode b_MO_write 49 = .ok (.putfield 233, 3) ∧ 49 + 3 = 52 := ⟨by decide +kernel, rfl⟩
theorem dMO_write_52 : decode b_MO_write 52 = .ok (.iconst 0, 1) ∧ 52 + 1 = 53 := ⟨by decide +kernel, rfl⟩
theorem dMO_write_53 : decode b_MO_write 53 = .ok (.istore 4, 2) ∧ 53 + 2 = 55 := ⟨by decide +kernel, rfl⟩
theorem dMO_write_55 : decode b_MO_write 55 = .ok (.iload 4, 2) ∧ 55 + 2 = 57 := ⟨by decide +kernel, rfl⟩
theorem dMO_write_57 : decode b_MO_write 57 = .ok (.aload_n 0, 1) ∧ 57 + 1 = 58 := ⟨by decide +kernel, rfl⟩
theorem dMO_write_58 : decode b_MO_write 58 = .ok (.getfield 233, 3) ∧ 58 + 3 = 61 := ⟨by decide +kernel, rfl⟩
theorem dMO_write_61 : decode b_MO_write 61 = .ok (.if_icmp .ge (17), 3) ∧ 61 + 3 = 64 ∧ ((61 : Nat) : Int) + (17) = ((78 : Nat) : Int) := ⟨by decide +kernel, rfl, by decide⟩
theorem dMO_write_64 : decode b_MO_write 64 = .ok (.aload_n 0, 1) ∧ 64 + 1 = 65 := ⟨by decide +kernel, rfl⟩
theorem dMO_write_65 : decode b_MO_write 65 = .ok (.getfield 70, 3) ∧ 65 + 3 = 68 := ⟨by decide +kernel, rfl⟩
theorem dMO_write_68 : decode b_MO_write 68 = .ok (.iload 4, 2) ∧ 68 + 2 = 70 := ⟨by decide +kernel, rfl⟩
theorem dMO_write_70 : decode b_MO_write 70 = .ok (.iconst 0, 1) ∧ 70 + 1 = 71 := ⟨by decide +kernel, rfl⟩
theorem dMO_write_71 : decode b_MO_write 71 = .ok (.iastore, 1) ∧ 71 + 1 = 72 := ⟨by decide +kernel, rfl⟩
theorem dMO_write_72 : decode b_MO_write 72 = .ok (.iinc 4 (1), 3) ∧ 72 + 3 = 75 := ⟨by decide +kernel, rfl⟩
theorem dMO_write_75 : decode b_MO_write 75 = .ok (.goto (-20), 3) ∧ 75 + 3 = 78 ∧ ((75 : Nat) : Int) + (-20) = ((55 : Nat) : Int) := ⟨by decide +kernel, rfl, by decide⟩
theorem dMO_write_78 : decode b_MO_write 78 = .ok (.aload_n 0, 1) ∧ 78 + 1 = 79 := ⟨by decide +kernel, rfl⟩
theorem dMO_write_79 : decode b_MO_write 79 = .ok (.iload_n 2, 1) ∧ 79 + 1 = 80 := ⟨by decide +kernel, rfl⟩
theorem dMO_write_80 : decode b_MO_write 80 = .ok (.invokevirtual 236, 3) ∧ 80 + 3 = 83 := ⟨by decide +kernel, rfl⟩
theorem dMO_write_83 : decode b_MO_write 83 = .ok (.iconst 0, 1) ∧ 83 + 1 = 84 := ⟨by decide +kernel, rfl⟩
theorem dMO_write_84 : decode b_MO_write 84 = .ok (.istore 4, 2) ∧ 84 + 2 = 86 := ⟨by decide +kernel, rfl⟩
theorem dMO_write_86 : decode b_MO_write 86 = .ok (.iload 4, 2) ∧ 86 + 2 = 88 := ⟨by decide +kernel, rfl⟩
theorem dMO_write_88 : decode b_MO_write 88 = .ok (.iconst 3, 1) ∧ 88 + 1 = 89 := ⟨by decide +kernel, rfl⟩
theorem dMO_write_89 : decode b_MO_write 89 = .ok (.if_icmp .ge (59), 3) ∧ 89 + 3 = 92 ∧ ((89 : Nat) : Int) + (59) = ((148 : Nat) : Int) := ⟨by decide +kernel, rfl, by decide⟩
theorem dMO_write_92 : decode b_MO_write 92 = .ok (.iconst 0, 1) ∧ 92 + 1 = 93 := ⟨by decide +kernel, rfl⟩
theorem dMO_write_93 : decode b_MO_write 93 = .ok (.istore 5, 2) ∧ 93 + 2 = 95 := ⟨by decide +kernel, rfl⟩
theorem dMO_write_95 : decode b_MO_write 95 = .ok (.iload 5, 2) ∧ 95 + 2 = 97 := ⟨by decide +kernel, rfl⟩
theorem dMO_write_97 : decode b_MO_write 97 = .ok (.aload_n 0, 1) ∧ 97 + 1 = 98 := ⟨by decide +kernel, rfl⟩
theorem dMO_write_98 : decode b_MO_write 98 = .ok (.getfield 13, 3) ∧ 98 + 3 = 101 := ⟨by decide +kernel, rfl⟩
theorem dMO_write_101 : decode b_MO_write 101 = .ok (.iload 4, 2) ∧ 101 + 2 = 103 := ⟨by decide +kernel, rfl⟩
theorem dMO_write_103 : decode b_MO_write 103 = .ok (.iaload, 1) ∧ 103 + 1 = 104 := ⟨by decide +kernel, rfl⟩
theorem dMO_write_104 : decode b_MO_write 104 = .ok (.if_icmp .ge (38), 3) ∧ 104 + 3 = 107 ∧ ((104 : Nat) : Int) + (38) = ((142 : Nat) : Int) := ⟨by decide +kernel, rfl, by decide⟩
theorem dMO_write_107 : decode b_MO_write 107 = .ok (.aload_n 0, 1) ∧ 107 + 1 = 108 := ⟨by decide +kernel, rfl⟩
theorem dMO_write_108 : decode b_MO_write 108 = .ok (.getfield 70, 3) ∧ 108 + 3 = 111 := ⟨by decide +kernel, rfl⟩
theorem dMO_write_111 : decode b_MO_write 111 = .ok (.aload_n 0, 1) ∧ 111 + 1 = 112 := ⟨by decide +kernel, rfl⟩
theorem dMO_write_112 : decode b_MO_write 112 = .ok (.getfield 83, 3) ∧ 112 + 3 = 115 := ⟨by decide +kernel, rfl⟩
theorem dMO_write_115 : decode b_MO_write 115 = .ok (.iload 4, 2) ∧ 115 + 2 = 117 := ⟨by decide +kernel, rfl⟩
theorem dMO_write_117 : decode b_MO_write 117 = .ok (.iaload, 1) ∧ 117 + 1 = 118 := ⟨by decide +kernel, rfl⟩
theorem dMO_write_118 : decode b_MO_write 118 = .ok (.iload 5, 2) ∧ 118 + 2 = 120 := ⟨by decide +kernel, rfl⟩
theorem dMO_write_120 : decode b_MO_write 120 = .ok (.iadd, 1) ∧ 120 + 1 = 121 := ⟨by decide +kernel, rfl⟩
theorem dMO_write_121 : decode b_MO_write 121 = .ok (.aload_n 0, 1) ∧ 121 + 1 = 122 := ⟨by decide +kernel, rfl⟩
theorem dMO_write_122 : decode b_MO_write 122 = .ok (.getfield 7, 3) ∧ 122 + 3 = 125 := ⟨by decide +kernel, rfl⟩
theorem dMO_write_125 : decode b_MO_write 125 = .ok (.sipush (2048), 3) ∧ 125 + 3 = 128 := ⟨by decide +kernel, rfl⟩
theorem dMO_write_128 : decode b_MO_write 128 = .ok (.iload 4, 2) ∧ 128 + 2 = 130 := ⟨by decide +kernel, rfl⟩
theorem dMO_write_130 : decode b_MO_write 130 = .ok (.imul, 1) ∧ 130 + 1 = 131 := ⟨by decide +kernel, rfl⟩
theorem dMO_write_131 : decode b_MO_write 131 = .ok (.iload 5, 2) ∧ 131 + 2 = 133 := ⟨by decide +kernel, rfl⟩
theorem dMO_write_133 : decode b_MO_write 133 = .ok (.iadd, 1) ∧ 133 + 1 = 134 := ⟨by decide +kernel, rfl⟩
theorem dMO_write_134 : decode b_MO_write 134 = .ok (.iaload, 1) ∧ 134 + 1 = 135 := ⟨by decide +kernel, rfl⟩
theorem dMO_write_135 : decode b_MO_write 135 = .ok (.iastore, 1) ∧ 135 + 1 = 136 := ⟨by decide +kernel, rfl⟩
theorem dMO_write_136 : decode b_MO_write 136 = .ok (.iinc 5 (1), 3) ∧ 136 + 3 = 139 := ⟨by decide +kernel, rfl⟩
theorem dMO_write_139 : decode b_MO_write 139 = .ok (.goto (-44), 3) ∧ 139 + 3 = 142 ∧ ((139 : Nat) : Int) + (-44) = ((95 : Nat) : Int) := ⟨by decide +kernel, rfl, by decide⟩
theorem dMO_write_142 : decode b_MO_write 142 = .ok (.iinc 4 (1), 3) ∧ 142 + 3 = 145 := ⟨by decide +kernel, rfl⟩
theorem dMO_write_145 : decode b_MO_write 145 = .ok (.goto (-59), 3) ∧ 145 + 3 = 148 ∧ ((145 : Nat) : Int) + (-59) = ((86 : Nat) : Int) := ⟨by decide +kernel, rfl, by decide⟩
theorem dMO_write_148 : decode b_MO_write 148 = .ok (.iconst 0, 1) ∧ 148 + 1 = 149 := ⟨by decide +kernel, rfl⟩
theorem dMO_write_149 : decode b_MO_write 149 = .ok (.istore 4, 2) ∧ 149 + 2 = 151 := ⟨by decide +kernel, rfl⟩
theorem dMO_write_151 : decode b_MO_write 151 = .ok (.iload 4, 2) ∧ 151 + 2 = 153 := ⟨by decide +kernel, rfl⟩
theorem dMO_write_153 : decode b_MO_write 153 = .ok (.aload_n 0, 1) ∧ 153 + 1 = 154 := ⟨by decide +kernel, rfl⟩
theorem dMO_write_154 : decode b_MO_write 154 = .ok (.getfield 22, 3) ∧ 154 + 3 = 157 := ⟨by decide +kernel, rfl⟩
theorem dMO_write_157 : decode b_MO_write 157 = .ok (.iconst 0, 1) ∧ 157 + 1 = 158 := ⟨by decide +kernel, rfl⟩
theorem dMO_write_158 : decode b_MO_write 158 = .ok (.iaload, 1) ∧ 158 + 1 = 159 := ⟨by decide +kernel, rfl⟩
theorem dMO_write_159 : decode b_MO_write 159 = .ok (.if_icmp .ge (31), 3) ∧ 159 + 3 = 162 ∧ ((159 : Nat) : Int) + (31) = ((190 : Nat) : Int) := ⟨by decide +kernel, rfl, by decide⟩
theorem dMO_write_162 : decode b_MO_write 162 = .ok (.aload_n 0, 1) ∧ 162 + 1 = 163 := ⟨by decide +kernel, rfl⟩
theorem dMO_write_163 : decode b_MO_write 163 = .ok (.aload_n 0, 1) ∧ 163 + 1 = 164 := ⟨by decide +kernel, rfl⟩
theorem dMO_write_164 : decode b_MO_write 164 = .ok (.getfield 83, 3) ∧ 164 + 3 = 167 := ⟨by decide +kernel, rfl⟩
theorem dMO_write_167 : decode b_MO_write 167 = .ok (.iconst 4, 1) ∧ 167 + 1 = 168 := ⟨by decide +kernel, rfl⟩
theorem dMO_write_168 : decode b_MO_write 168 = .ok (.iaload, 1) ∧ 168 + 1 = 169 := ⟨by decide +kernel, rfl⟩
theorem dMO_write_169 : decode b_MO_write 169 = .ok (.iconst 2, 1) ∧ 169 + 1 = 170 := ⟨by decide +kernel, rfl⟩
theorem dMO_write_170 : decode b_MO_write 170 = .ok (.iload 4, 2) ∧ 170 + 2 = 172 := ⟨by decide +kernel, rfl⟩
theorem dMO_write_172 : decode b_MO_write 172 = .ok (.imul, 1) ∧ 172 + 1 = 173 := ⟨by decide +kernel, rfl⟩
theorem dMO_write_173 : decode b_MO_write 173 = .ok (.iadd, 1) ∧ 173 + 1 = 174 := ⟨by decide +kernel, rfl⟩
theorem dMO_write_174 : decode b_MO_write 174 = .ok (.aload_n 0, 1) ∧ 174 + 1 = 175 := ⟨by decide +kernel, rfl⟩
theorem dMO_write_175 : decode b_MO_write 175 = .ok (.getfield 19, 3) ∧ 175 + 3 = 178 := ⟨by decide +kernel, rfl⟩
theorem dMO_write_178 : decode b_MO_write 178 = .ok (.iload 4, 2) ∧ 178 + 2 = 180 := ⟨by decide +kernel, rfl⟩
theorem dMO_write_180 : decode b_MO_write 180 = .ok (.iaload, 1) ∧ 180 + 1 = 181 := ⟨by decide +kernel, rfl⟩
theorem dMO_write_181 : decode b_MO_write 181 = .ok (.invokevirtual 205, 3) ∧ 181 + 3 = 184 := ⟨by decide +kernel, rfl⟩
theorem dMO_write_184 : decode b_MO_write 184 = .ok (.iinc 4 (1), 3) ∧ 184 + 3 = 187 := ⟨by decide +kernel, rfl⟩
theorem dMO_write_187 : decode b_MO_write 187 = .ok (.goto (-36), 3) ∧ 187 + 3 = 190 ∧ ((187 : Nat) : Int) + (-36) = ((151 : Nat) : Int) := ⟨by decide +kernel, rfl, by decide⟩
theorem dMO_write_190 : decode b_MO_write 190 = .ok (.iconst 0, 1) ∧ 190 + 1 = 191 := ⟨by decide +kernel, rfl⟩
theorem dMO_write_191 : decode b_MO_write 191 = .ok (.istore 4, 2) ∧ 191 + 2 = 193 := ⟨by decide +kernel, rfl⟩
theorem dMO_write_193 : decode b_MO_write 193 = .ok (.iload 4, 2) ∧ 193 + 2 = 195 := ⟨by decide +kernel, rfl⟩
theorem dMO_write_195 : decode b_MO_write 195 = .ok (.iconst 3, 1) ∧ 195 + 1 = 196 := ⟨by decide +kernel, rfl⟩
theorem dMO_write_196 : decode b_MO_write 196 = .ok (.if_icmp .ge (15), 3) ∧ 196 + 3 = 199 ∧ ((196 : Nat) : Int) + (15) = ((211 : Nat) : Int) := ⟨by decide +kernel, rfl, by decide⟩
theorem dMO_write_199 : decode b_MO_write 199 = .ok (.aload_n 0, 1) ∧ 199 + 1 = 200 := ⟨by decide +kernel, rfl⟩
theorem dMO_write_200 : decode b_MO_write 200 = .ok (.iload 4, 2) ∧ 200 + 2 = 202 := ⟨by decide +kernel, rfl⟩
theorem dMO_write_202 : decode b_MO_write 202 = .ok (.invokevirtual 239, 3) ∧ 202 + 3 = 205 := ⟨by decide +kernel, rfl⟩
theorem dMO_write_205 : decode b_MO_write 205 = .ok (.iinc 4 (1), 3) ∧ 205 + 3 = 208 := ⟨by decide +kernel, rfl⟩
theorem dMO_write_208 : decode b_MO_write 208 = .ok (.goto (-15), 3) ∧ 208 + 3 = 211 ∧ ((208 : Nat) : Int) + (-15) = ((193 : Nat) : Int) := ⟨by decide +kernel, rfl, by decide⟩
theorem dMO_write_211 : decode b_MO_write 211 = .ok (.aload_n 0, 1) ∧ 211 + 1 = 212 := ⟨by decide +kernel, rfl⟩
theorem dMO_write_212 : decode b_MO_write 212 = .ok (.invokevirtual 242, 3) ∧ 212 + 3 = 215 := ⟨by decide +kernel, rfl⟩
theorem dMO_write_215 : decode b_MO_write 215 = .ok (.aload_n 0, 1) ∧ 215 + 1 = 216 := ⟨by decide +kernel, rfl⟩
theorem dMO_write_216 : decode b_MO_write 216 = .ok (.invokevirtual 198, 3) ∧ 216 + 3 = 219 := ⟨by decide +kernel, rfl⟩
theorem dMO_write_219 : decode b_MO_write 219 = .ok (.istore 4, 2) ∧ 219 + 2 = 221 := ⟨by decide +kernel, rfl⟩
theorem dMO_write_221 : decode b_MO_write 221 = .ok (.iconst 0, 1) ∧ 221 + 1 = 222 := ⟨by decide +kernel, rfl⟩
theorem dMO_write_222 : decode b_MO_write 222 = .ok (.istore 5, 2) ∧ 222 + 2 = 224 := ⟨by decide +kernel, rfl⟩
theorem dMO_write_224 : decode b_MO_write 224 = .ok (.iload 5, 2) ∧ 224 + 2 = 226 := ⟨by decide +kernel, rfl⟩
theorem dMO_write_226 : decode b_MO_write 226 = .ok (.iload 4, 2) ∧ 226 + 2 = 228 := ⟨by decide +kernel, rfl⟩
theorem dMO_write_228 : decode b_MO_write 228 = .ok (.if_icmp .ge (31), 3) ∧ 228 + 3 = 231 ∧ ((228 : Nat) : Int) + (31) = ((259 : Nat) : Int) := ⟨by decide +kernel, rfl, by decide⟩
theorem dMO_write_231 : decode b_MO_write 231 = .ok (.aload_n 0, 1) ∧ 231 + 1 = 232 := ⟨by decide +kernel, rfl⟩
theorem dMO_write_232 : decode b_MO_write 232 = .ok (.getfield 70, 3) ∧ 232 + 3 = 235 := ⟨by decide +kernel, rfl⟩
theorem dMO_write_235 : decode b_MO_write 235 = .ok (.aload_n 0, 1) ∧ 235 + 1 = 236 := ⟨by decide +kernel, rfl⟩
theorem dMO_write_236 : decode b_MO_write 236 = .ok (.getfield 83, 3) ∧ 236 + 3 = 239 := ⟨by decide +kernel, rfl⟩
theorem dMO_write_239 : decode b_MO_write 239 = .ok (.bipush (10), 2) ∧ 239 + 2 = 241 := ⟨by decide +kernel, rfl⟩
theorem dMO_write_241 : decode b_MO_write 241 = .ok (.iaload, 1) ∧ 241 + 1 = 242 := ⟨by decide +kernel, rfl⟩
theorem dMO_write_242 : decode b_MO_write 242 = .ok (.iload 5, 2) ∧ 242 + 2 = 244 := ⟨by decide +kernel, rfl⟩
theorem dMO_write_244 : decode b_MO_write 244 = .ok (.iadd, 1) ∧ 244 + 1 = 245 := ⟨by decide +kernel, rfl⟩
theorem dMO_write_245 : decode b_MO_write 245 = .ok (.aload_n 0, 1) ∧ 245 + 1 = 246 := ⟨by decide +kernel, rfl⟩
theorem dMO_write_246 : decode b_MO_write 246 = .ok (.getfield 92, 3) ∧ 246 + 3 = 249 := ⟨by decide +kernel, rfl⟩
theorem dMO_write_249 : decode b_MO_write 249 = .ok (.iload 5, 2) ∧ 249 + 2 = 251 := ⟨by decide +kernel, rfl⟩
theorem dMO_write_251 : decode b_MO_write 251 = .ok (.iaload, 1) ∧ 251 + 1 = 252 := ⟨by decide +kernel, rfl⟩
theorem dMO_write_252 : decode b_MO_write 252 = .ok (.iastore, 1) ∧ 252 + 1 = 253 := ⟨by decide +kernel, rfl⟩
theorem dMO_write_253 : decode b_MO_write 253 = .ok (.iinc 5 (1), 3) ∧ 253 + 3 = 256 := ⟨by decide +kernel, rfl⟩
theorem dMO_write_256 : decode b_MO_write 256 = .ok (.goto (-32), 3) ∧ 256 + 3 = 259 ∧ ((256 : Nat) : Int) + (-32) = ((224 : Nat) : Int) := ⟨by decide +kernel, rfl, by decide⟩
theorem dMO_write_259 : decode b_MO_write 259 = .ok (.aload_n 0, 1) ∧ 259 + 1 = 260 := ⟨by decide +kernel, rfl⟩
theorem dMO_write_260 : decode b_MO_write 260 = .ok (.invokevirtual 192, 3) ∧ 260 + 3 = 263 := ⟨by decide +kernel, rfl⟩
theorem dMO_write_263 : decode b_MO_write 263 = .ok (.istore 4, 2) ∧ 263 + 2 = 265 := ⟨by decide +kernel, rfl⟩
theorem dMO_write_265 : decode b_MO_write 265 = .ok (.iconst 0, 1) ∧ 265 + 1 = 266 := ⟨by decide +kernel, rfl⟩
theorem dMO_write_266 : decode b_MO_write 266 = .ok (.istore 5, 2) ∧ 266 + 2 = 268 := ⟨by decide +kernel, rfl⟩
theorem dMO_write_268 : decode b_MO_write 268 = .ok (.iload 5, 2) ∧ 268 + 2 = 270 := ⟨by decide +kernel, rfl⟩
theorem dMO_write_270 : decode b_MO_write 270 = .ok (.iload 4, 2) ∧ 270 + 2 = 272 := ⟨by decide +kernel, rfl⟩
theorem dMO_write_272 : decode b_MO_write 272 = .ok (.if_icmp .ge (31), 3) ∧ 272 + 3 = 275 ∧ ((272 : Nat) : Int) + (31) = ((303 : Nat) : Int) := ⟨by decide +kernel, rfl, by decide⟩
theorem dMO_write_275 : decode b_MO_write 275 = .ok (.aload_n 0, 1) ∧ 275 + 1 = 276 := ⟨by decide +kernel, rfl⟩
theorem dMO_write_276 : decode b_MO_write 276 = .ok (.getfield 70, 3) ∧ 276 + 3 = 279 := ⟨by decide +kernel, rfl⟩
theorem dMO_write_279 : decode b_MO_write 279 = .ok (.aload_n 0, 1) ∧ 279 + 1 = 280 := ⟨by decide +kernel, rfl⟩
theorem dMO_write_280 : decode b_MO_write 280 = .ok (.getfield 83, 3) ∧ 280 + 3 = 283 := ⟨by decide +kernel, rfl⟩
theorem dMO_write_283 : decode b_MO_write 283 = .ok (.bipush (9), 2) ∧ 283 + 2 = 285 := ⟨by decide +kernel, rfl⟩
theorem dMO_write_285 : decode b_MO_write 285 = .ok (.iaload, 1) ∧ 285 + 1 = 286 := ⟨by decide +kernel, rfl⟩
theorem dMO_write_286 : decode b_MO_write 286 = .ok (.iload 5, 2) ∧ 286 + 2 = 288 := ⟨by decide +kernel, rfl⟩
theorem dMO_write_288 : decode b_MO_write 288 = .ok (.iadd, 1) ∧ 288 + 1 = 289 := ⟨by decide +kernel, rfl⟩
theorem dMO_write_289 : decode b_MO_write 289 = .ok (.aload_n 0, 1) ∧ 289 + 1 = 290 := ⟨by decide +kernel, rfl⟩
theorem dMO_write_290 : decode b_MO_write 290 = .ok (.getfield 92, 3) ∧ 290 + 3 = 293 := ⟨by decide +kernel, rfl⟩
theorem dMO_write_293 : decode b_MO_write 293 = .ok (.iload 5, 2) ∧ 293 + 2 = 295 := ⟨by decide +kernel, rfl⟩
theorem dMO_write_295 : decode b_MO_write 295 = .ok (.iaload, 1) ∧ 295 + 1 = 296 := ⟨by decide +kernel, rfl⟩
theorem dMO_write_296 : decode b_MO_write 296 = .ok (.iastore, 1) ∧ 296 + 1 = 297 := ⟨by decide +kernel, rfl⟩
theorem dMO_write_297 : decode b_MO_write 297 = .ok (.iinc 5 (1), 3) ∧ 297 + 3 = 300 := ⟨by decide +kernel, rfl⟩
theorem dMO_write_300 : decode b_MO_write 300 = .ok (.goto (-32), 3) ∧ 300 + 3 = 303 ∧ ((300 : Nat) : Int) + (-32) = ((268 : Nat) : Int) := ⟨by decide +kernel, rfl, by decide⟩
theorem dMO_write_303 : decode b_MO_write 303 = .ok (.iconst 0, 1) ∧ 303 + 1 = 304 := ⟨by decide +kernel, rfl⟩
theorem dMO_write_304 : decode b_MO_write 304 = .ok (.istore 5, 2) ∧ 304 + 2 = 306 := ⟨by decide +kernel, rfl⟩
theorem dMO_write_306 : decode b_MO_write 306 = .ok (.iload 5, 2) ∧ 306 + 2 = 308 := ⟨by decide +kernel, rfl⟩
theorem dMO_write_308 : decode b_MO_write 308 = .ok (.bipush (11), 2) ∧ 308 + 2 = 310 := ⟨by decide +kernel, rfl⟩
theorem dMO_write_310 : decode b_MO_write 310 = .ok (.if_icmp .ge (38), 3) ∧ 310 + 3 = 313 ∧ ((310 : Nat) : Int) + (38) = ((348 : Nat) : Int) := ⟨by decide +kernel, rfl, by decide⟩
theorem dMO_write_313 : decode b_MO_write 313 = .ok (.aload_n 0, 1) ∧ 313 + 1 = 314 := ⟨by decide +kernel, rfl⟩
theorem dMO_write_314 : decode b_MO_write 314 = .ok (.getfield 89, 3) ∧ 314 + 3 = 317 := ⟨by decide +kernel, rfl⟩
theorem dMO_write_317 : decode b_MO_write 317 = .ok (.iload 5, 2) ∧ 317 + 2 = 319 := ⟨by decide +kernel, rfl⟩
theorem dMO_write_319 : decode b_MO_write 319 = .ok (.iaload, 1) ∧ 319 + 1 = 320 := ⟨by decide +kernel, rfl⟩
theorem dMO_write_320 : decode b_MO_write 320 = .ok (.ifCond .le (22), 3) ∧ 320 + 3 = 323 ∧ ((320 : Nat) : Int) + (22) = ((342 : Nat) : Int) := ⟨by decide +kernel, rfl, by decide⟩
theorem dMO_write_323 : decode b_MO_write 323 = .ok (.aload_n 0, 1) ∧ 323 + 1 = 324 := ⟨by decide +kernel, rfl⟩
theorem dMO_write_324 : decode b_MO_write 324 = .ok (.iload 5, 2) ∧ 324 + 2 = 326 := ⟨by decide +kernel, rfl⟩
theorem dMO_write_326 : decode b_MO_write 326 = .ok (.iload_n 2, 1) ∧ 326 + 1 = 327 := ⟨by decide +kernel, rfl⟩
theorem dMO_write_327 : decode b_MO_write 327 = .ok (.bipush (40), 2) ∧ 327 + 2 = 329 := ⟨by decide +kernel, rfl⟩
theorem dMO_write_329 : decode b_MO_write 329 = .ok (.aload_n 0, 1) ∧ 329 + 1 = 330 := ⟨by decide +kernel, rfl⟩
theorem dMO_write_330 : decode b_MO_write 330 = .ok (.getfield 89, 3) ∧ 330 + 3 = 333 := ⟨by decide +kernel, rfl⟩
theorem dMO_write_333 : decode b_MO_write 333 = .ok (.iload 5, 2) ∧ 333 + 2 = 335 := ⟨by decide +kernel, rfl⟩
theorem dMO_write_335 : decode b_MO_write 335 = .ok (.iaload, 1) ∧ 335 + 1 = 336 := ⟨by decide +kernel, rfl⟩
theorem dMO_write_336 : decode b_MO_write 336 = .ok (.imul, 1) ∧ 336 + 1 = 337 := ⟨by decide +kernel, rfl⟩
theorem dMO_write_337 : decode b_MO_write 337 = .ok (.iadd, 1) ∧ 337 + 1 = 338 := ⟨by decide +kernel, rfl⟩
theorem dMO_write_338 : decode b_MO_write 338 = .ok (.iload_n 3, 1) ∧ 338 + 1 = 339 := ⟨by decide +kernel, rfl⟩
theorem dMO_write_339 : decode b_MO_write 339 = .ok (.invokevirtual 245, 3) ∧ 339 + 3 = 342 := ⟨by decide +kernel, rfl⟩
theorem dMO_write_342 : decode b_MO_write 342 = .ok (.iinc 5 (1), 3) ∧ 342 + 3 = 345 := ⟨by decide +kernel, rfl⟩
theorem dMO_write_345 : decode b_MO_write 345 = .ok (.goto (-39), 3) ∧ 345 + 3 = 348 ∧ ((345 : Nat) : Int) + (-39) = ((306 : Nat) : Int) := ⟨by decide +kernel, rfl, by decide⟩
theorem dMO_write_348 : decode b_MO_write 348 = .ok (.aload_n 0, 1) ∧ 348 + 1 = 349 := ⟨by decide +kernel, rfl⟩
theorem dMO_write_349 : decode b_MO_write 349 = .ok (.getfield 233, 3) ∧ 349 + 3 = 352 := ⟨by decide +kernel, rfl⟩
theorem dMO_write_352 : decode b_MO_write 352 = .ok (.ireturn, 1) ∧ 352 + 1 = 353 := ⟨by decide +kernel, rfl⟩
theorem dMO_size_0 : decode b_MO_size 0 = .ok (.aload_n 0, 1) ∧ 0 + 1 = 1 := ⟨by decide +kernel, rfl⟩
theorem dMO_size_1 : decode b_MO_size 1 = .ok (.getfield 233, 3) ∧ 1 + 3 = 4 := ⟨by decide +kernel, rfl⟩
theorem dMO_size_4 : decode b_MO_size 4 = .ok (.ireturn, 1) ∧ 4 + 1 = 5 := ⟨by decide +kernel, rfl⟩
theorem dMO_byteAt_0 : decode b_MO_byteAt 0 = .ok (.iload_n 1, 1) ∧ 0 + 1 = 1 := ⟨by decide +kernel, rfl⟩
theorem dMO_byteAt_1 : decode b_MO_byteAt 1 = .ok (.ifCond .lt (20), 3) ∧ 1 + 3 = 4 ∧ ((1 : Nat) : Int) + (20) = ((21 : Nat) : Int) := ⟨by decide +kernel, rfl, by decide⟩
theorem dMO_byteAt_4 : decode b_MO_byteAt 4 = .ok (.iload_n 1, 1) ∧ 4 + 1 = 5 := ⟨by decide +kernel, rfl⟩
theorem dMO_byteAt_5 : decode b_MO_byteAt 5 = .ok (.aload_n 0, 1) ∧ 5 + 1 = 6 := ⟨by decide +kernel, rfl⟩
theorem dMO_byteAt_6 : decode b_MO_byteAt 6 = .ok (.getfield 233, 3) ∧ 6 + 3 = 9 := ⟨by decide +kernel, rfl⟩
theorem dMO_byteAt_9 : decode b_MO_byteAt 9 = .ok (.if_icmp .ge (12), 3) ∧ 9 + 3 = 12 ∧ ((9 : Nat) : Int) + (12) = ((21 : Nat) : Int) := ⟨by decide +kernel, rfl, by decide⟩
theorem dMO_byteAt_12 : decode b_MO_byteAt 12 = .ok (.aload_n 0, 1) ∧ 12 + 1 = 13 := ⟨by decide +kernel, rfl⟩
theorem dMO_byteAt_13 : decode b_MO_byteAt 13 = .ok (.getfield 70, 3) ∧ 13 + 3 = 16 := ⟨by decide +kernel, rfl⟩
theorem dMO_byteAt_16 : decode b_MO_byteAt 16 = .ok (.iload_n 1, 1) ∧ 16 + 1 = 17 := ⟨by decide +kernel, rfl⟩
theorem dMO_byteAt_17 : decode b_MO_byteAt 17 = .ok (.iaload, 1) ∧ 17 + 1 = 18 := ⟨by decide +kernel, rfl⟩
theorem dMO_byteAt_18 : decode b_MO_byteAt 18 = .ok (.goto (4), 3) ∧ 18 + 3 = 21 ∧ ((18 : Nat) : Int) + (4) = ((22 : Nat) : Int) := ⟨by decide +kernel, rfl, by decide⟩
theorem dMO_byteAt_21 : decode b_MO_byteAt 21 = .ok (.iconst (-1), 1) ∧ 21 + 1 = 22 := ⟨by decide +kernel, rfl⟩
theorem dMO_byteAt_22 : decode b_MO_byteAt 22 = .ok (.ireturn, 1) ∧ 22 + 1 = 23 := ⟨by decide +kernel, rfl⟩
theorem dMO_feed_0 : decode b_MO_feed 0 = .ok (.iload_n 1, 1) ∧ 0 + 1 = 1 := ⟨by decide +kernel, rfl⟩
theorem dMO_feed_1 : decode b_MO_feed 1 = .ok (.iconst 1, 1) ∧ 1 + 1 = 2 := ⟨by decide +kernel, rfl⟩
theorem dMO_feed_2 : decode b_MO_feed 2 = .ok (.if_icmp .lt (21), 3) ∧ 2 + 3 = 5 ∧ ((2 : Nat) : Int) + (21) = ((23 : Nat) : Int) := ⟨by decide +kernel, rfl, by decide⟩
theorem dMO_feed_5 : decode b_MO_feed 5 = .ok (.iload_n 1, 1) ∧ 5 + 1 = 6 := ⟨by decide +kernel, rfl⟩
theorem dMO_feed_6 : decode b_MO_feed 6 = .ok (.bipush (8), 2) ∧ 6 + 2 = 8 := ⟨by decide +kernel, rfl⟩
theorem dMO_feed_8 : decode b_MO_feed 8 = .ok (.if_icmp .gt (15), 3) ∧ 8 + 3 = 11 ∧ ((8 : Nat) : Int) + (15) = ((23 : Nat) : Int) := ⟨by decide +kernel, rfl, by decide⟩
theorem dMO_feed_11 : decode b_MO_feed 11 = .ok (.aload_n 0, 1) ∧ 11 + 1 = 12 := ⟨by decide +kernel, rfl⟩
theorem dMO_feed_12 : decode b_MO_feed 12 = .ok (.getfield 233, 3) ∧ 12 + 3 = 15 := ⟨by decide +kernel, rfl⟩
theorem dMO_feed_15 : decode b_MO_feed 15 = .ok (.iload_n 1, 1) ∧ 15 + 1 = 16 := ⟨by decide +kernel, rfl⟩
theorem dMO_feed_16 : decode b_MO_feed 16 = .ok (.iadd, 1) ∧ 16 + 1 = 17 := ⟨by decide +kernel, rfl⟩
theorem dMO_feed_17 : decode b_MO_feed 17 = .ok (.sipush (8192), 3) ∧ 17 + 3 = 20 := ⟨by decide +kernel, rfl⟩
theorem dMO_feed_20 : decode b_MO_feed 20 = .ok (.if_icmp .le (5), 3) ∧ 20 + 3 = 23 ∧ ((20 : Nat) : Int) + (5) = ((25 : Nat) : Int) := ⟨by decide +kernel, rfl, by decide⟩
theorem dMO_feed_23 : decode b_MO_feed 23 = .ok (.iconst 0, 1) ∧ 23 + 1 = 24 := ⟨by decide +kernel, rfl⟩
theorem dMO_feed_24 : decode b_MO_feed 24 = .ok (.ireturn, 1) ∧ 24 + 1 = 25 := ⟨by decide +kernel, rfl⟩
theorem dMO_feed_25 : decode b_MO_feed 25 = .ok (.iconst 0, 1) ∧ 25 + 1 = 26 := ⟨by decide +kernel, rfl⟩
theorem dMO_feed_26 : decode b_MO_feed 26 = .ok (.istore 4, 2) ∧ 26 + 2 = 28 := ⟨by decide +kernel, rfl⟩
theorem dMO_feed_28 : decode b_MO_feed 28 = .ok (.iload 4, 2) ∧ 28 + 2 = 30 := ⟨by decide +kernel, rfl⟩
theorem dMO_feed_30 : decode b_MO_feed 30 = .ok (.iload_n 1, 1) ∧ 30 + 1 = 31 := ⟨by decide +kernel, rfl⟩
theorem dMO_feed_31 : decode b_MO_feed 31 = .ok (.if_icmp .ge (27), 3) ∧ 31 + 3 = 34 ∧ ((31 : Nat) : Int) + (27) = ((58 : Nat) : Int) := ⟨by decide +kernel, rfl, by decide⟩
theorem dMO_feed_34 : decode b_MO_feed 34 = .ok (.aload_n 0, 1) ∧ 34 + 1 = 35 := ⟨by decide +kernel, rfl⟩
theorem dMO_feed_35 : decode b_MO_feed 35 = .ok (.getfield 70, 3) ∧ 35 + 3 = 38 := ⟨by decide +kernel, rfl⟩
theorem dMO_feed_38 : decode b_MO_feed 38 = .ok (.aload_n 0, 1) ∧ 38 + 1 = 39 := ⟨by decide +kernel, rfl⟩
theorem dMO_feed_39 : decode b_MO_feed 39 = .ok (.getfield 233, 3) ∧ 39 + 3 = 42 := ⟨by decide +kernel, rfl⟩
theorem dMO_feed_42 : decode b_MO_feed 42 = .ok (.iload 4, 2) ∧ 42 + 2 = 44 := ⟨by decide +kernel, rfl⟩
theorem dMO_feed_44 : decode b_MO_feed 44 = .ok (.iadd, 1) ∧ 44 + 1 = 45 := ⟨by decide +kernel, rfl⟩
theorem dMO_feed_45 : decode b_MO_feed 45 = .ok (.lload_n 2, 1) ∧ 45 + 1 = 46 := ⟨by decide +kernel, rfl⟩
theorem dMO_feed_46 : decode b_MO_feed 46 = .ok (.iload 4, 2) ∧ 46 + 2 = 48 := ⟨by decide +kernel, rfl⟩
theorem dMO_feed_48 : decode b_MO_feed 48 = .ok (.invokestatic 137, 3) ∧ 48 + 3 = 51 := ⟨by decide +kernel, rfl⟩
theorem dMO_feed_51 : decode b_MO_feed 51 = .ok (.iastore, 1) ∧ 51 + 1 = 52 := ⟨by decide +kernel, rfl⟩
theorem dMO_feed_52 : decode b_MO_feed 52 = .ok (.iinc 4 (1), 3) ∧ 52 + 3 = 55 := ⟨by decide +kernel, rfl⟩
theorem dMO_feed_55 : decode b_MO_feed 55 = .ok (.goto (-27), 3) ∧ 55 + 3 = 58 ∧ ((55 : Nat) : Int) + (-27) = ((28 : Nat) : Int) := ⟨by decide +kernel, rfl, by decide⟩
theorem dMO_feed_58 : decode b_MO_feed 58 = .ok (.aload_n 0, 1) ∧ 58 + 1 = 59 := ⟨by decide +kernel, rfl⟩
theorem dMO_feed_59 : decode b_MO_feed 59 = .ok (.dup, 1) ∧ 59 + 1 = 60 := ⟨by decide +kernel, rfl⟩
theorem dMO_feed_60 : decode b_MO_feed 60 = .ok (.getfield 233, 3) ∧ 60 + 3 = 63 := ⟨by decide +kernel, rfl⟩
theorem dMO_feed_63 : decode b_MO_feed 63 = .ok (.iload_n 1, 1) ∧ 63 + 1 = 64 := ⟨by decide +kernel, rfl⟩
theorem dMO_feed_64 : decode b_MO_feed 64 = .ok (.iadd, 1) ∧ 64 + 1 = 65 := ⟨by decide +kernel, rfl⟩
theorem dMO_feed_65 : decode b_MO_feed 65 = .ok (.putfield 233, 3) ∧ 65 + 3 = 68 := ⟨by decide +kernel, rfl⟩
theorem dMO_feed_68 : decode b_MO_feed 68 = .ok (.iconst 1, 1) ∧ 68 + 1 = 69 := ⟨by decide +kernel, rfl⟩
theorem dMO_feed_69 : decode b_MO_feed 69 = .ok (.ireturn, 1) ∧ 69 + 1 = 70 := ⟨by decide +kernel, rfl⟩
theorem dMO_cut_0 : decode b_MO_cut 0 = .ok (.iload_n 1, 1) ∧ 0 + 1 = 1 := ⟨by decide +kernel, rfl⟩
theorem dMO_cut_1 : decode b_MO_cut 1 = .ok (.ifCond .lt (11), 3) ∧ 1 + 3 = 4 ∧ ((1 : Nat) : Int) + (11) = ((12 : Nat) : Int) := ⟨by decide +kernel, rfl, by decide⟩
theorem dMO_cut_4 : decode b_MO_cut 4 = .ok (.iload_n 1, 1) ∧ 4 + 1 = 5 := ⟨by decide +kernel, rfl⟩
theorem dMO_cut_5 : decode b_MO_cut 5 = .ok (.aload_n 0, 1) ∧ 5 + 1 = 6 := ⟨by decide +kernel, rfl⟩
theorem dMO_cut_6 : decode b_MO_cut 6 = .ok (.getfield 233, 3) ∧ 6 + 3 = 9 := ⟨by decide +kernel, rfl⟩
theorem dMO_cut_9 : decode b_MO_cut 9 = .ok (.if_icmp .le (5), 3) ∧ 9 + 3 = 12 ∧ ((9 : Nat) : Int) + (5) = ((14 : Nat) : Int) := ⟨by decide +kernel, rfl, by decide⟩
theorem dMO_cut_12 : decode b_MO_cut 12 = .ok (.iconst 0, 1) ∧ 12 + 1 = 13 := ⟨by decide +kernel, rfl⟩
theorem dMO_cut_13 : decode b_MO_cut 13 = .ok (.ireturn, 1) ∧ 13 + 1 = 14 := ⟨by decide +kernel, rfl⟩
theorem dMO_cut_14 : decode b_MO_cut 14 = .ok (.aload_n 0, 1) ∧ 14 + 1 = 15 := ⟨by decide +kernel, rfl⟩
theorem dMO_cut_15 : decode b_MO_cut 15 = .ok (.iload_n 1, 1) ∧ 15 + 1 = 16 := ⟨by decide +kernel, rfl⟩
theorem dMO_cut_16 : decode b_MO_cut 16 = .ok (.putfield 233, 3) ∧ 16 + 3 = 19 := ⟨by decide +kernel, rfl⟩
theorem dMO_cut_19 : decode b_MO_cut 19 = .ok (.iconst 1, 1) ∧ 19 + 1 = 20 := ⟨by decide +kernel, rfl⟩
theorem dMO_cut_20 : decode b_MO_cut 20 = .ok (.ireturn, 1) ∧ 20 + 1 = 21 := ⟨by decide +kernel, rfl⟩
theorem dMO_spoil_0 : decode b_MO_spoil 0 = .ok (.iload_n 1, 1) ∧ 0 + 1 = 1 := ⟨by decide +kernel, rfl⟩
theorem dMO_spoil_1 : decode b_MO_spoil 1 = .ok (.ifCond .lt (11), 3) ∧ 1 + 3 = 4 ∧ ((1 : Nat) : Int) + (11) = ((12 : Nat) : Int) := ⟨by decide +kernel, rfl, by decide⟩
theorem dMO_spoil_4 : decode b_MO_spoil 4 = .ok (.iload_n 1, 1) ∧ 4 + 1 = 5 := ⟨by decide +kernel, rfl⟩
theorem dMO_spoil_5 : decode b_MO_spoil 5 = .ok (.aload_n 0, 1) ∧ 5 + 1 = 6 := ⟨by decide +kernel, rfl⟩
theorem dMO_spoil_6 : decode b_MO_spoil 6 = .ok (.getfield 233, 3) ∧ 6 + 3 = 9 := ⟨by decide +kernel, rfl⟩
theorem dMO_spoil_9 : decode b_MO_spoil 9 = .ok (.if_icmp .lt (5), 3) ∧ 9 + 3 = 12 ∧ ((9 : Nat) : Int) + (5) = ((14 : Nat) : Int) := ⟨by decide +kernel, rfl, by decide⟩
theorem dMO_spoil_12 : decode b_MO_spoil 12 = .ok (.iconst (-1), 1) ∧ 12 + 1 = 13 := ⟨by decide +kernel, rfl⟩
theorem dMO_spoil_13 : decode b_MO_spoil 13 = .ok (.ireturn, 1) ∧ 13 + 1 = 14 := ⟨by decide +kernel, rfl⟩
theorem dMO_spoil_14 : decode b_MO_spoil 14 = .ok (.aload_n 0, 1) ∧ 14 + 1 = 15 := ⟨by decide +kernel, rfl⟩
theorem dMO_spoil_15 : decode b_MO_spoil 15 = .ok (.getfield 70, 3) ∧ 15 + 3 = 18 := ⟨by decide +kernel, rfl⟩
theorem dMO_spoil_18 : decode b_MO_spoil 18 = .ok (.iload_n 1, 1) ∧ 18 + 1 = 19 := ⟨by decide +kernel, rfl⟩
theorem dMO_spoil_19 : decode b_MO_spoil 19 = .ok (.iaload, 1) ∧ 19 + 1 = 20 := ⟨by decide +kernel, rfl⟩
theorem dMO_spoil_20 : decode b_MO_spoil 20 = .ok (.istore_n 3, 1) ∧ 20 + 1 = 21 := ⟨by decide +kernel, rfl⟩
theorem dMO_spoil_21 : decode b_MO_spoil 21 = .ok (.aload_n 0, 1) ∧ 21 + 1 = 22 := ⟨by decide +kernel, rfl⟩
theorem dMO_spoil_22 : decode b_MO_spoil 22 = .ok (.getfield 70, 3) ∧ 22 + 3 = 25 := ⟨by decide +kernel, rfl⟩
theorem dMO_spoil_25 : decode b_MO_spoil 25 = .ok (.iload_n 1, 1) ∧ 25 + 1 = 26 := ⟨by decide +kernel, rfl⟩
theorem dMO_spoil_26 : decode b_MO_spoil 26 = .ok (.iload_n 2, 1) ∧ 26 + 1 = 27 := ⟨by decide +kernel, rfl⟩
theorem dMO_spoil_27 : decode b_MO_spoil 27 = .ok (.sipush (255), 3) ∧ 27 + 3 = 30 := ⟨by decide +kernel, rfl⟩
theorem dMO_spoil_30 : decode b_MO_spoil 30 = .ok (.iand, 1) ∧ 30 + 1 = 31 := ⟨by decide +kernel, rfl⟩
theorem dMO_spoil_31 : decode b_MO_spoil 31 = .ok (.iastore, 1) ∧ 31 + 1 = 32 := ⟨by decide +kernel, rfl⟩
theorem dMO_spoil_32 : decode b_MO_spoil 32 = .ok (.iload_n 3, 1) ∧ 32 + 1 = 33 := ⟨by decide +kernel, rfl⟩
theorem dMO_spoil_33 : decode b_MO_spoil 33 = .ok (.ireturn, 1) ∧ 33 + 1 = 34 := ⟨by decide +kernel, rfl⟩
theorem dMO_read2_0 : decode b_MO_read2 0 = .ok (.aload_n 0, 1) ∧ 0 + 1 = 1 := ⟨by decide +kernel, rfl⟩
theorem dMO_read2_1 : decode b_MO_read2 1 = .ok (.getfield 70, 3) ∧ 1 + 3 = 4 := ⟨by decide +kernel, rfl⟩
theorem dMO_read2_4 : decode b_MO_read2 4 = .ok (.iload_n 1, 1) ∧ 4 + 1 = 5 := ⟨by decide +kernel, rfl⟩
theorem dMO_read2_5 : decode b_MO_read2 5 = .ok (.iaload, 1) ∧ 5 + 1 = 6 := ⟨by decide +kernel, rfl⟩
theorem dMO_read2_6 : decode b_MO_read2 6 = .ok (.aload_n 0, 1) ∧ 6 + 1 = 7 := ⟨by decide +kernel, rfl⟩
theorem dMO_read2_7 : decode b_MO_read2 7 = .ok (.getfield 70, 3) ∧ 7 + 3 = 10 := ⟨by decide +kernel, rfl⟩
theorem dMO_read2_10 : decode b_MO_read2 10 = .ok (.iload_n 1, 1) ∧ 10 + 1 = 11 := ⟨by decide +kernel, rfl⟩
theorem dMO_read2_11 : decode b_MO_read2 11 = .ok (.iconst 1, 1) ∧ 11 + 1 = 12 := ⟨by decide +kernel, rfl⟩
theorem dMO_read2_12 : decode b_MO_read2 12 = .ok (.iadd, 1) ∧ 12 + 1 = 13 := ⟨by decide +kernel, rfl⟩
theorem dMO_read2_13 : decode b_MO_read2 13 = .ok (.iaload, 1) ∧ 13 + 1 = 14 := ⟨by decide +kernel, rfl⟩
theorem dMO_read2_14 : decode b_MO_read2 14 = .ok (.bipush (8), 2) ∧ 14 + 2 = 16 := ⟨by decide +kernel, rfl⟩
theorem dMO_read2_16 : decode b_MO_read2 16 = .ok (.ishl, 1) ∧ 16 + 1 = 17 := ⟨by decide +kernel, rfl⟩
theorem dMO_read2_17 : decode b_MO_read2 17 = .ok (.ior, 1) ∧ 17 + 1 = 18 := ⟨by decide +kernel, rfl⟩
theorem dMO_read2_18 : decode b_MO_read2 18 = .ok (.ireturn, 1) ∧ 18 + 1 = 19 := ⟨by decide +kernel, rfl⟩
theorem dMO_read4_0 : decode b_MO_read4 0 = .ok (.aload_n 0, 1) ∧ 0 + 1 = 1 := ⟨by decide +kernel, rfl⟩
theorem dMO_read4_1 : decode b_MO_read4 1 = .ok (.iload_n 1, 1) ∧ 1 + 1 = 2 := ⟨by decide +kernel, rfl⟩
theorem dMO_read4_2 : decode b_MO_read4 2 = .ok (.invokevirtual 249, 3) ∧ 2 + 3 = 5 := ⟨by decide +kernel, rfl⟩
theorem dMO_read4_5 : decode b_MO_read4 5 = .ok (.i2l, 1) ∧ 5 + 1 = 6 := ⟨by decide +kernel, rfl⟩
theorem dMO_read4_6 : decode b_MO_read4 6 = .ok (.ldc2_w 252, 3) ∧ 6 + 3 = 9 := ⟨by decide +kernel, rfl⟩
theorem dMO_read4_9 : decode b_MO_read4 9 = .ok (.aload_n 0, 1) ∧ 9 + 1 = 10 := ⟨by decide +kernel, rfl⟩
theorem dMO_read4_10 : decode b_MO_read4 10 = .ok (.iload_n 1, 1) ∧ 10 + 1 = 11 := ⟨by decide +kernel, rfl⟩
theorem dMO_read4_11 : decode b_MO_read4 11 = .ok (.iconst 2, 1) ∧ 11 + 1 = 12 := ⟨by decide +kernel, rfl⟩
theorem dMO_read4_12 : decode b_MO_read4 12 = .ok (.iadd, 1) ∧ 12 + 1 = 13 := ⟨by decide +kernel, rfl⟩
theorem dMO_read4_13 : decode b_MO_read4 13 = .ok (.invokevirtual 249, 3) ∧ 13 + 3 = 16 := ⟨by decide +kernel, rfl⟩
theorem dMO_read4_16 : decode b_MO_read4 16 = .ok (.i2l, 1) ∧ 16 + 1 = 17 := ⟨by decide +kernel, rfl⟩
theorem dMO_read4_17 : decode b_MO_read4 17 = .ok (.lmul, 1) ∧ 17 + 1 = 18 := ⟨by decide +kernel, rfl⟩
theorem dMO_read4_18 : decode b_MO_read4 18 = .ok (.ladd, 1) ∧ 18 + 1 = 19 := ⟨by decide +kernel, rfl⟩
theorem dMO_read4_19 : decode b_MO_read4 19 = .ok (.lreturn, 1) ∧ 19 + 1 = 20 := ⟨by decide +kernel, rfl⟩
theorem dMO_fault_0 : decode b_MO_fault 0 = .ok (.aload_n 0, 1) ∧ 0 + 1 = 1 := ⟨by decide +kernel, rfl⟩
theorem dMO_fault_1 : decode b_MO_fault 1 = .ok (.iload_n 2, 1) ∧ 1 + 1 = 2 := ⟨by decide +kernel, rfl⟩
theorem dMO_fault_2 : decode b_MO_fault 2 = .ok (.putfield 73, 3) ∧ 2 + 3 = 5 := ⟨by decide +kernel, rfl⟩
theorem dMO_fault_5 : decode b_MO_fault 5 = .ok (.iload_n 1, 1) ∧ 5 + 1 = 6 := ⟨by decide +kernel, rfl⟩
theorem dMO_fault_6 : decode b_MO_fault 6 = .ok (.ireturn, 1) ∧ 6 + 1 = 7 := ⟨by decide +kernel, rfl⟩
theorem dMO_head_0 : decode b_MO_head 0 = .ok (.aload_n 0, 1) ∧ 0 + 1 = 1 := ⟨by decide +kernel, rfl⟩
theorem dMO_head_1 : decode b_MO_head 1 = .ok (.getfield 233, 3) ∧ 1 + 3 = 4 := ⟨by decide +kernel, rfl⟩
theorem dMO_head_4 : decode b_MO_head 4 = .ok (.bipush (52), 2) ∧ 4 + 2 = 6 := ⟨by decide +kernel, rfl⟩
theorem dMO_head_6 : decode b_MO_head 6 = .ok (.if_icmp .ge (13), 3) ∧ 6 + 3 = 9 ∧ ((6 : Nat) : Int) + (13) = ((19 : Nat) : Int) := ⟨by decide +kernel, rfl, by decide⟩
theorem dMO_head_9 : decode b_MO_head 9 = .ok (.aload_n 0, 1) ∧ 9 + 1 = 10 := ⟨by decide +kernel, rfl⟩
theorem dMO_head_10 : decode b_MO_head 10 = .ok (.iconst 1, 1) ∧ 10 + 1 = 11 := ⟨by decide +kernel, rfl⟩
theorem dMO_head_11 : decode b_MO_head 11 = .ok (.aload_n 0, 1) ∧ 11 + 1 = 12 := ⟨by decide +kernel, rfl⟩
theorem dMO_head_12 : decode b_MO_head 12 = .ok (.getfield 233, 3) ∧ 12 + 3 = 15 := ⟨by decide +kernel, rfl⟩
theorem dMO_head_15 : decode b_MO_head 15 = .ok (.invokevirtual 264, 3) ∧ 15 + 3 = 18 := ⟨by decide +kernel, rfl⟩
theorem dMO_head_18 : decode b_MO_head 18 = .ok (.ireturn, 1) ∧ 18 + 1 = 19 := ⟨by decide +kernel, rfl⟩
theorem dMO_head_19 : decode b_MO_head 19 = .ok (.aload_n 0, 1) ∧ 19 + 1 = 20 := ⟨by decide +kernel, rfl⟩
theorem dMO_head_20 : decode b_MO_head 20 = .ok (.getfield 70, 3) ∧ 20 + 3 = 23 := ⟨by decide +kernel, rfl⟩
theorem dMO_head_23 : decode b_MO_head 23 = .ok (.iconst 0, 1) ∧ 23 + 1 = 24 := ⟨by decide +kernel, rfl⟩
theorem dMO_head_24 : decode b_MO_head 24 = .ok (.iaload, 1) ∧ 24 + 1 = 25 := ⟨by decide +kernel, rfl⟩
theorem dMO_head_25 : decode b_MO_head 25 = .ok (.bipush (127), 2) ∧ 25 + 2 = 27 := ⟨by decide +kernel, rfl⟩
theorem dMO_head_27 : decode b_MO_head 27 = .ok (.if_icmp .eq (10), 3) ∧ 27 + 3 = 30 ∧ ((27 : Nat) : Int) + (10) = ((37 : Nat) : Int) := ⟨by decide +kernel, rfl, by decide⟩
theorem dMO_head_30 : decode b_MO_head 30 = .ok (.aload_n 0, 1) ∧ 30 + 1 = 31 := ⟨by decide +kernel, rfl⟩
theorem dMO_head_31 : decode b_MO_head 31 = .ok (.iconst 2, 1) ∧ 31 + 1 = 32 := ⟨by decide +kernel, rfl⟩
theorem dMO_head_32 : decode b_MO_head 32 = .ok (.iconst 0, 1) ∧ 32 + 1 = 33 := ⟨by decide +kernel, rfl⟩
theorem dMO_head_33 : decode b_MO_head 33 = .ok (.invokevirtual 264, 3) ∧ 33 + 3 = 36 := ⟨by decide +kernel, rfl⟩
theorem dMO_head_36 : decode b_MO_head 36 = .ok (.ireturn, 1) ∧ 36 + 1 = 37 := ⟨by decide +kernel, rfl⟩
theorem dMO_head_37 : decode b_MO_head 37 = .ok (.aload_n 0, 1) ∧ 37 + 1 = 38 := ⟨by decide +kernel, rfl⟩
theorem dMO_head_38 : decode b_MO_head 38 = .ok (.getfield 70, 3) ∧ 38 + 3 = 41 := ⟨by decide +kernel, rfl⟩
theorem dMO_head_41 : decode b_MO_head 41 = .ok (.iconst 1, 1) ∧ 41 + 1 = 42 := ⟨by decide +kernel, rfl⟩
theorem dMO_head_42 : decode b_MO_head 42 = .ok (.iaload, 1) ∧ 42 + 1 = 43 := ⟨by decide +kernel, rfl⟩
theorem dMO_head_43 : decode b_MO_head 43 = .ok (.bipush (69), 2) ∧ 43 + 2 = 45 := ⟨by decide +kernel, rfl⟩
theorem dMO_head_45 : decode b_MO_head 45 = .ok (.if_icmp .eq (10), 3) ∧ 45 + 3 = 48 ∧ ((45 : Nat) : Int) + (10) = ((55 : Nat) : Int) := ⟨by decide +kernel, rfl, by decide⟩
theorem dMO_head_48 : decode b_MO_head 48 = .ok (.aload_n 0, 1) ∧ 48 + 1 = 49 := ⟨by decide +kernel, rfl⟩
theorem dMO_head_49 : decode b_MO_head 49 = .ok (.iconst 2, 1) ∧ 49 + 1 = 50 := ⟨by decide +kernel, rfl⟩
theorem dMO_head_50 : decode b_MO_head 50 = .ok (.iconst 1, 1) ∧ 50 + 1 = 51 := ⟨by decide +kernel, rfl⟩
theorem dMO_head_51 : decode b_MO_head 51 = .ok (.invokevirtual 264, 3) ∧ 51 + 3 = 54 := ⟨by decide +kernel, rfl⟩
theorem dMO_head_54 : decode b_MO_head 54 = .ok (.ireturn, 1) ∧ 54 + 1 = 55 := ⟨by decide +kernel, rfl⟩
theorem dMO_head_55 : decode b_MO_head 55 = .ok (.aload_n 0, 1) ∧ 55 + 1 = 56 := ⟨by decide +kernel, rfl⟩
theorem dMO_head_56 : decode b_MO_head 56 = .ok (.getfield 70, 3) ∧ 56 + 3 = 59 := ⟨by decide +kernel, rfl⟩
theorem dMO_head_59 : decode b_MO_head 59 = .ok (.iconst 2, 1) ∧ 59 + 1 = 60 := ⟨by decide +kernel, rfl⟩
theorem dMO_head_60 : decode b_MO_head 60 = .ok (.iaload, 1) ∧ 60 + 1 = 61 := ⟨by decide +kernel, rfl⟩
theorem dMO_head_61 : decode b_MO_head 61 = .ok (.bipush (76), 2) ∧ 61 + 2 = 63 := ⟨by decide +kernel, rfl⟩
theorem dMO_head_63 : decode b_MO_head 63 = .ok (.if_icmp .eq (10), 3) ∧ 63 + 3 = 66 ∧ ((63 : Nat) : Int) + (10) = ((73 : Nat) : Int) := ⟨by decide +kernel, rfl, by decide⟩
theorem dMO_head_66 : decode b_MO_head 66 = .ok (.aload_n 0, 1) ∧ 66 + 1 = 67 := ⟨by decide +kernel, rfl⟩
theorem dMO_head_67 : decode b_MO_head 67 = .ok (.iconst 2, 1) ∧ 67 + 1 = 68 := ⟨by decide +kernel, rfl⟩
theorem dMO_head_68 : decode b_MO_head 68 = .ok (.iconst 2, 1) ∧ 68 + 1 = 69 := ⟨by decide +kernel, rfl⟩
theorem dMO_head_69 : decode b_MO_head 69 = .ok (.invokevirtual 264, 3) ∧ 69 + 3 = 72 := ⟨by decide +kernel, rfl⟩
theorem dMO_head_72 : decode b_MO_head 72 = .ok (.ireturn, 1) ∧ 72 + 1 = 73 := ⟨by decide +kernel, rfl⟩
theorem dMO_head_73 : decode b_MO_head 73 = .ok (.aload_n 0, 1) ∧ 73 + 1 = 74 := ⟨by decide +kernel, rfl⟩
theorem dMO_head_74 : decode b_MO_head 74 = .ok (.getfield 70, 3) ∧ 74 + 3 = 77 := ⟨by decide +kernel, rfl⟩
theorem dMO_head_77 : decode b_MO_head 77 = .ok (.iconst 3, 1) ∧ 77 + 1 = 78 := ⟨by decide +kernel, rfl⟩
theorem dMO_head_78 : decode b_MO_head 78 = .ok (.iaload, 1) ∧ 78 + 1 = 79 := ⟨by decide +kernel, rfl⟩
theorem dMO_head_79 : decode b_MO_head 79 = .ok (.bipush (70), 2) ∧ 79 + 2 = 81 := ⟨by decide +kernel, rfl⟩
theorem dMO_head_81 : decode b_MO_head 81 = .ok (.if_icmp .eq (10), 3) ∧ 81 + 3 = 84 ∧ ((81 : Nat) : Int) + (10) = ((91 : Nat) : Int) := ⟨by decide +kernel, rfl, by decide⟩
theorem dMO_head_84 : decode b_MO_head 84 = .ok (.aload_n 0, 1) ∧ 84 + 1 = 85 := ⟨by decide +kernel, rfl⟩
theorem dMO_head_85 : decode b_MO_head 85 = .ok (.iconst 2, 1) ∧ 85 + 1 = 86 := ⟨by decide +kernel, rfl⟩
theorem dMO_head_86 : decode b_MO_head 86 = .ok (.iconst 3, 1) ∧ 86 + 1 = 87 := ⟨by decide +kernel, rfl⟩
theorem dMO_head_87 : decode b_MO_head 87 = .ok (.invokevirtual 264, 3) ∧ 87 + 3 = 90 := ⟨by decide +kernel, rfl⟩
theorem dMO_head_90 : decode b_MO_head 90 = .ok (.ireturn, 1) ∧ 90 + 1 = 91 := ⟨by decide +kernel, rfl⟩
theorem dMO_head_91 : decode b_MO_head 91 = .ok (.iconst 4, 1) ∧ 91 + 1 = 92 := ⟨by decide +kernel, rfl⟩
theorem dMO_head_92 : decode b_MO_head 92 = .ok (.istore_n 1, 1) ∧ 92 + 1 = 93 := ⟨by decide +kernel, rfl⟩
theorem dMO_head_93 : decode b_MO_head 93 = .ok (.iload_n 1, 1) ∧ 93 + 1 = 94 := ⟨by decide +kernel, rfl⟩
theorem dMO_head_94 : decode b_MO_head 94 = .ok (.bipush (7), 2) ∧ 94 + 2 = 96 := ⟨by decide +kernel, rfl⟩
theorem dMO_head_96 : decode b_MO_head 96 = .ok (.if_icmp .ge (28), 3) ∧ 96 + 3 = 99 ∧ ((96 : Nat) : Int) + (28) = ((124 : Nat) : Int) := ⟨by decide +kernel, rfl, by decide⟩
theorem dMO_head_99 : decode b_MO_head 99 = .ok (.aload_n 0, 1) ∧ 99 + 1 = 100 := ⟨by decide +kernel, rfl⟩
theorem dMO_head_100 : decode b_MO_head 100 = .ok (.getfield 70, 3) ∧ 100 + 3 = 103 := ⟨by decide +kernel, rfl⟩
theorem dMO_head_103 : decode b_MO_head 103 = .ok (.iload_n 1, 1) ∧ 103 + 1 = 104 := ⟨by decide +kernel, rfl⟩
theorem dMO_head_104 : decode b_MO_head 104 = .ok (.iaload, 1) ∧ 104 + 1 = 105 := ⟨by decide +kernel, rfl⟩
theorem dMO_head_105 : decode b_MO_head 105 = .ok (.iconst 1, 1) ∧ 105 + 1 = 106 := ⟨by decide +kernel, rfl⟩
theorem dMO_head_106 : decode b_MO_head 106 = .ok (.if_icmp .eq (12), 3) ∧ 106 + 3 = 109 ∧ ((106 : Nat) : Int) + (12) = ((118 : Nat) : Int) := ⟨by decide +kernel, rfl, by decide⟩
theorem dMO_head_109 : decode b_MO_head 109 = .ok (.aload_n 0, 1) ∧ 109 + 1 = 110 := ⟨by decide +kernel, rfl⟩
theorem dMO_head_110 : decode b_MO_head 110 = .ok (.iload_n 1, 1) ∧ 110 + 1 = 111 := ⟨by decide +kernel, rfl⟩
theorem dMO_head_111 : decode b_MO_head 111 = .ok (.iconst 1, 1) ∧ 111 + 1 = 112 := ⟨by decide +kernel, rfl⟩
theorem dMO_head_112 : decode b_MO_head 112 = .ok (.isub, 1) ∧ 112 + 1 = 113 := ⟨by decide +kernel, rfl⟩
theorem dMO_head_113 : decode b_MO_head 113 = .ok (.iload_n 1, 1) ∧ 113 + 1 = 114 := ⟨by decide +kernel, rfl⟩
theorem dMO_head_114 : decode b_MO_head 114 = .ok (.invokevirtual 264, 3) ∧ 114 + 3 = 117 := ⟨by decide +kernel, rfl⟩
theorem dMO_head_117 : decode b_MO_head 117 = .ok (.ireturn, 1) ∧ 117 + 1 = 118 := ⟨by decide +kernel, rfl⟩
theorem dMO_head_118 : decode b_MO_head 118 = .ok (.iinc 1 (1), 3) ∧ 118 + 3 = 121 := ⟨by decide +kernel, rfl⟩
theorem dMO_head_121 : decode b_MO_head 121 = .ok (.goto (-28), 3) ∧ 121 + 3 = 124 ∧ ((121 : Nat) : Int) + (-28) = ((93 : Nat) : Int) := ⟨by decide +kernel, rfl, by decide⟩
theorem dMO_head_124 : decode b_MO_head 124 = .ok (.bipush (7), 2) ∧ 124 + 2 = 126 := ⟨by decide +kernel, rfl⟩
theorem dMO_head_126 : decode b_MO_head 126 = .ok (.istore_n 1, 1) ∧ 126 + 1 = 127 := ⟨by decide +kernel, rfl⟩
theorem dMO_head_127 : decode b_MO_head 127 = .ok (.iload_n 1, 1) ∧ 127 + 1 = 128 := ⟨by decide +kernel, rfl⟩
theorem dMO_head_128 : decode b_MO_head 128 = .ok (.bipush (16), 2) ∧ 128 + 2 = 130 := ⟨by decide +kernel, rfl⟩
theorem dMO_head_130 : decode b_MO_head 130 = .ok (.if_icmp .ge (26), 3) ∧ 130 + 3 = 133 ∧ ((130 : Nat) : Int) + (26) = ((156 : Nat) : Int) := ⟨by decide +kernel, rfl, by decide⟩
theorem dMO_head_133 : decode b_MO_head 133 = .ok (.aload_n 0, 1) ∧ 133 + 1 = 134 := ⟨by decide +kernel, rfl⟩
theorem dMO_head_134 : decode b_MO_head 134 = .ok (.getfield 70, 3) ∧ 134 + 3 = 137 := ⟨by decide +kernel, rfl⟩
theorem dMO_head_137 : decode b_MO_head 137 = .ok (.iload_n 1, 1) ∧ 137 + 1 = 138 := ⟨by decide +kernel, rfl⟩
theorem dMO_head_138 : decode b_MO_head 138 = .ok (.iaload, 1) ∧ 138 + 1 = 139 := ⟨by decide +kernel, rfl⟩
theorem dMO_head_139 : decode b_MO_head 139 = .ok (.ifCond .eq (11), 3) ∧ 139 + 3 = 142 ∧ ((139 : Nat) : Int) + (11) = ((150 : Nat) : Int) := ⟨by decide +kernel, rfl, by decide⟩
theorem dMO_head_142 : decode b_MO_head 142 = .ok (.aload_n 0, 1) ∧ 142 + 1 = 143 := ⟨by decide +kernel, rfl⟩
theorem dMO_head_143 : decode b_MO_head 143 = .ok (.bipush (6), 2) ∧ 143 + 2 = 145 := ⟨by decide +kernel, rfl⟩
theorem dMO_head_145 : decode b_MO_head 145 = .ok (.iload_n 1, 1) ∧ 145 + 1 = 146 := ⟨by decide +kernel, rfl⟩
theorem dMO_head_146 : decode b_MO_head 146 = .ok (.invokevirtual 264, 3) ∧ 146 + 3 = 149 := ⟨by decide +kernel, rfl⟩
theorem dMO_head_149 : decode b_MO_head 149 = .ok (.ireturn, 1) ∧ 149 + 1 = 150 := ⟨by decide +kernel, rfl⟩
theorem dMO_head_150 : decode b_MO_head 150 = .ok (.iinc 1 (1), 3) ∧ 150 + 3 = 153 := ⟨by decide +kernel, rfl⟩
theorem dMO_head_153 : decode b_MO_head 153 = .ok (.goto (-26), 3) ∧ 153 + 3 = 156 ∧ ((153 : Nat) : Int) + (-26) = ((127 : Nat) : Int) := ⟨by decide +kernel, rfl, by decide⟩
theorem dMO_head_156 : decode b_MO_head 156 = .ok (.aload_n 0, 1) ∧ 156 + 1 = 157 := ⟨by decide +kernel, rfl⟩
theorem dMO_head_157 : decode b_MO_head 157 = .ok (.bipush (16), 2) ∧ 157 + 2 = 159 := ⟨by decide +kernel, rfl⟩
theorem dMO_head_159 : decode b_MO_head 159 = .ok (.invokevirtual 249, 3) ∧ 159 + 3 = 162 := ⟨by decide +kernel, rfl⟩
theorem dMO_head_162 : decode b_MO_head 162 = .ok (.iconst 1, 1) ∧ 162 + 1 = 163 := ⟨by decide +kernel, rfl⟩
theorem dMO_head_163 : decode b_MO_head 163 = .ok (.if_icmp .eq (12), 3) ∧ 163 + 3 = 166 ∧ ((163 : Nat) : Int) + (12) = ((175 : Nat) : Int) := ⟨by decide +kernel, rfl, by decide⟩
theorem dMO_head_166 : decode b_MO_head 166 = .ok (.aload_n 0, 1) ∧ 166 + 1 = 167 := ⟨by decide +kernel, rfl⟩
theorem dMO_head_167 : decode b_MO_head 167 = .ok (.bipush (7), 2) ∧ 167 + 2 = 169 := ⟨by decide +kernel, rfl⟩
theorem dMO_head_169 : decode b_MO_head 169 = .ok (.bipush (16), 2) ∧ 169 + 2 = 171 := ⟨by decide +kernel, rfl⟩
theorem dMO_head_171 : decode b_MO_head 171 = .ok (.invokevirtual 264, 3) ∧ 171 + 3 = 174 := ⟨by decide +kernel, rfl⟩
theorem dMO_head_174 : decode b_MO_head 174 = .ok (.ireturn, 1) ∧ 174 + 1 = 175 := ⟨by decide +kernel, rfl⟩
theorem dMO_head_175 : decode b_MO_head 175 = .ok (.aload_n 0, 1) ∧ 175 + 1 = 176 := ⟨by decide +kernel, rfl⟩
theorem dMO_head_176 : decode b_MO_head 176 = .ok (.bipush (18), 2) ∧ 176 + 2 = 178 := ⟨by decide +kernel, rfl⟩
theorem dMO_head_178 : decode b_MO_head 178 = .ok (.invokevirtual 249, 3) ∧ 178 + 3 = 181 := ⟨by decide +kernel, rfl⟩
theorem dMO_head_181 : decode b_MO_head 181 = .ok (.sipush (243), 3) ∧ 181 + 3 = 184 := ⟨by decide +kernel, rfl⟩
theorem dMO_head_184 : decode b_MO_head 184 = .ok (.if_icmp .eq (12), 3) ∧ 184 + 3 = 187 ∧ ((184 : Nat) : Int) + (12) = ((196 : Nat) : Int) := ⟨by decide +kernel, rfl, by decide⟩
theorem dMO_head_187 : decode b_MO_head 187 = .ok (.aload_n 0, 1) ∧ 187 + 1 = 188 := ⟨by decide +kernel, rfl⟩
theorem dMO_head_188 : decode b_MO_head 188 = .ok (.bipush (8), 2) ∧ 188 + 2 = 190 := ⟨by decide +kernel, rfl⟩
theorem dMO_head_190 : decode b_MO_head 190 = .ok (.bipush (18), 2) ∧ 190 + 2 = 192 := ⟨by decide +kernel, rfl⟩
theorem dMO_head_192 : decode b_MO_head 192 = .ok (.invokevirtual 264, 3) ∧ 192 + 3 = 195 := ⟨by decide +kernel, rfl⟩
theorem dMO_head_195 : decode b_MO_head 195 = .ok (.ireturn, 1) ∧ 195 + 1 = 196 := ⟨by decide +kernel, rfl⟩
theorem dMO_head_196 : decode b_MO_head 196 = .ok (.aload_n 0, 1) ∧ 196 + 1 = 197 := ⟨by decide +kernel, rfl⟩
theorem dMO_head_197 : decode b_MO_head 197 = .ok (.bipush (20), 2) ∧ 197 + 2 = 199 := ⟨by decide +kernel, rfl⟩
theorem dMO_head_199 : decode b_MO_head 199 = .ok (.invokevirtual 260, 3) ∧ 199 + 3 = 202 := ⟨by decide +kernel, rfl⟩
theorem dMO_head_202 : decode b_MO_head 202 = .ok (.lconst 1, 1) ∧ 202 + 1 = 203 := ⟨by decide +kernel, rfl⟩
theorem dMO_head_203 : decode b_MO_head 203 = .ok (.lcmp, 1) ∧ 203 + 1 = 204 := ⟨by decide +kernel, rfl⟩
theorem dMO_head_204 : decode b_MO_head 204 = .ok (.ifCond .eq (12), 3) ∧ 204 + 3 = 207 ∧ ((204 : Nat) : Int) + (12) = ((216 : Nat) : Int) := ⟨by decide +kernel, rfl, by decide⟩
theorem dMO_head_207 : decode b_MO_head 207 = .ok (.aload_n 0, 1) ∧ 207 + 1 = 208 := ⟨by decide +kernel, rfl⟩
theorem dMO_head_208 : decode b_MO_head 208 = .ok (.bipush (9), 2) ∧ 208 + 2 = 210 := ⟨by decide +kernel, rfl⟩
theorem dMO_head_210 : decode b_MO_head 210 = .ok (.bipush (20), 2) ∧ 210 + 2 = 212 := ⟨by decide +kernel, rfl⟩
theorem dMO_head_212 : decode b_MO_head 212 = .ok (.invokevirtual 264, 3) ∧ 212 + 3 = 215 := ⟨by decide +kernel, rfl⟩
theorem dMO_head_215 : decode b_MO_head 215 = .ok (.ireturn, 1) ∧ 215 + 1 = 216 := ⟨by decide +kernel, rfl⟩
theorem dMO_head_216 : decode b_MO_head 216 = .ok (.aload_n 0, 1) ∧ 216 + 1 = 217 := ⟨by decide +kernel, rfl⟩
theorem dMO_head_217 : decode b_MO_head 217 = .ok (.bipush (24), 2) ∧ 217 + 2 = 219 := ⟨by decide +kernel, rfl⟩
theorem dMO_head_219 : decode b_MO_head 219 = .ok (.invokevirtual 260, 3) ∧ 219 + 3 = 222 := ⟨by decide +kernel, rfl⟩
theorem dMO_head_222 : decode b_MO_head 222 = .ok (.lconst 0, 1) ∧ 222 + 1 = 223 := ⟨by decide +kernel, rfl⟩
theorem dMO_head_223 : decode b_MO_head 223 = .ok (.lcmp, 1) ∧ 223 + 1 = 224 := ⟨by decide +kernel, rfl⟩
theorem dMO_head_224 : decode b_MO_head 224 = .ok (.ifCond .eq (12), 3) ∧ 224 + 3 = 227 ∧ ((224 : Nat) : Int) + (12) = ((236 : Nat) : Int) := ⟨by decide +kernel, rfl, by decide⟩
theorem dMO_head_227 : decode b_MO_head 227 = .ok (.aload_n 0, 1) ∧ 227 + 1 = 228 := ⟨by decide +kernel, rfl⟩
theorem dMO_head_228 : decode b_MO_head 228 = .ok (.bipush (9), 2) ∧ 228 + 2 = 230 := ⟨by decide +kernel, rfl⟩
theorem dMO_head_230 : decode b_MO_head 230 = .ok (.bipush (24), 2) ∧ 230 + 2 = 232 := ⟨by decide +kernel, rfl⟩
theorem dMO_head_232 : decode b_MO_head 232 = .ok (.invokevirtual 264, 3) ∧ 232 + 3 = 235 := ⟨by decide +kernel, rfl⟩
theorem dMO_head_235 : decode b_MO_head 235 = .ok (.ireturn, 1) ∧ 235 + 1 = 236 := ⟨by decide +kernel, rfl⟩
theorem dMO_head_236 : decode b_MO_head 236 = .ok (.aload_n 0, 1) ∧ 236 + 1 = 237 := ⟨by decide +kernel, rfl⟩
theorem dMO_head_237 : decode b_MO_head 237 = .ok (.bipush (28), 2) ∧ 237 + 2 = 239 := ⟨by decide +kernel, rfl⟩
theorem dMO_head_239 : decode b_MO_head 239 = .ok (.invokevirtual 260, 3) ∧ 239 + 3 = 242 := ⟨by decide +kernel, rfl⟩
theorem dMO_head_242 : decode b_MO_head 242 = .ok (.lconst 0, 1) ∧ 242 + 1 = 243 := ⟨by decide +kernel, rfl⟩
theorem dMO_head_243 : decode b_MO_head 243 = .ok (.lcmp, 1) ∧ 243 + 1 = 244 := ⟨by decide +kernel, rfl⟩
theorem dMO_head_244 : decode b_MO_head 244 = .ok (.ifCond .eq (12), 3) ∧ 244 + 3 = 247 ∧ ((244 : Nat) : Int) + (12) = ((256 : Nat) : Int) := ⟨by decide +kernel, rfl, by decide⟩
theorem dMO_head_247 : decode b_MO_head 247 = .ok (.aload_n 0, 1) ∧ 247 + 1 = 248 := ⟨by decide +kernel, rfl⟩
theorem dMO_head_248 : decode b_MO_head 248 = .ok (.bipush (9), 2) ∧ 248 + 2 = 250 := ⟨by decide +kernel, rfl⟩
theorem dMO_head_250 : decode b_MO_head 250 = .ok (.bipush (28), 2) ∧ 250 + 2 = 252 := ⟨by decide +kernel, rfl⟩
theorem dMO_head_252 : decode b_MO_head 252 = .ok (.invokevirtual 264, 3) ∧ 252 + 3 = 255 := ⟨by decide +kernel, rfl⟩
theorem dMO_head_255 : decode b_MO_head 255 = .ok (.ireturn, 1) ∧ 255 + 1 = 256 := ⟨by decide +kernel, rfl⟩
theorem dMO_head_256 : decode b_MO_head 256 = .ok (.aload_n 0, 1) ∧ 256 + 1 = 257 := ⟨by decide +kernel, rfl⟩
theorem dMO_head_257 : decode b_MO_head 257 = .ok (.bipush (32), 2) ∧ 257 + 2 = 259 := ⟨by decide +kernel, rfl⟩
theorem dMO_head_259 : decode b_MO_head 259 = .ok (.invokevirtual 260, 3) ∧ 259 + 3 = 262 := ⟨by decide +kernel, rfl⟩
theorem dMO_head_262 : decode b_MO_head 262 = .ok (.lstore_n 1, 1) ∧ 262 + 1 = 263 := ⟨by decide +kernel, rfl⟩
theorem dMO_head_263 : decode b_MO_head 263 = .ok (.lload_n 1, 1) ∧ 263 + 1 = 264 := ⟨by decide +kernel, rfl⟩
theorem dMO_head_264 : decode b_MO_head 264 = .ok (.ldc2_w 267, 3) ∧ 264 + 3 = 267 := ⟨by decide +kernel, rfl⟩
theorem dMO_head_267 : decode b_MO_head 267 = .ok (.lrem, 1) ∧ 267 + 1 = 268 := ⟨by decide +kernel, rfl⟩
theorem dMO_head_268 : decode b_MO_head 268 = .ok (.lconst 0, 1) ∧ 268 + 1 = 269 := ⟨by decide +kernel, rfl⟩
theorem dMO_head_269 : decode b_MO_head 269 = .ok (.lcmp, 1) ∧ 269 + 1 = 270 := ⟨by decide +kernel, rfl⟩
theorem dMO_head_270 : decode b_MO_head 270 = .ok (.ifCond .ne (11), 3) ∧ 270 + 3 = 273 ∧ ((270 : Nat) : Int) + (11) = ((281 : Nat) : Int) := ⟨by decide +kernel, rfl, by decide⟩
theorem dMO_head_273 : decode b_MO_head 273 = .ok (.lload_n 1, 1) ∧ 273 + 1 = 274 := ⟨by decide +kernel, rfl⟩
theorem dMO_head_274 : decode b_MO_head 274 = .ok (.ldc2_w 269, 3) ∧ 274 + 3 = 277 := ⟨by decide +kernel, rfl⟩
theorem dMO_head_277 : decode b_MO_head 277 = .ok (.lcmp, 1) ∧ 277 + 1 = 278 := ⟨by decide +kernel, rfl⟩
theorem dMO_head_278 : decode b_MO_head 278 = .ok (.ifCond .ge (12), 3) ∧ 278 + 3 = 281 ∧ ((278 : Nat) : Int) + (12) = ((290 : Nat) : Int) := ⟨by decide +kernel, rfl, by decide⟩
theorem dMO_head_281 : decode b_MO_head 281 = .ok (.aload_n 0, 1) ∧ 281 + 1 = 282 := ⟨by decide +kernel, rfl⟩
theorem dMO_head_282 : decode b_MO_head 282 = .ok (.bipush (9), 2) ∧ 282 + 2 = 284 := ⟨by decide +kernel, rfl⟩
theorem dMO_head_284 : decode b_MO_head 284 = .ok (.bipush (32), 2) ∧ 284 + 2 = 286 := ⟨by decide +kernel, rfl⟩
theorem dMO_head_286 : decode b_MO_head 286 = .ok (.invokevirtual 264, 3) ∧ 286 + 3 = 289 := ⟨by decide +kernel, rfl⟩
theorem dMO_head_289 : decode b_MO_head 289 = .ok (.ireturn, 1) ∧ 289 + 1 = 290 := ⟨by decide +kernel, rfl⟩
theorem dMO_head_290 : decode b_MO_head 290 = .ok (.aload_n 0, 1) ∧ 290 + 1 = 291 := ⟨by decide +kernel, rfl⟩
theorem dMO_head_291 : decode b_MO_head 291 = .ok (.bipush (36), 2) ∧ 291 + 2 = 293 := ⟨by decide +kernel, rfl⟩
theorem dMO_head_293 : decode b_MO_head 293 = .ok (.invokevirtual 260, 3) ∧ 293 + 3 = 296 := ⟨by decide +kernel, rfl⟩
theorem dMO_head_296 : decode b_MO_head 296 = .ok (.lconst 1, 1) ∧ 296 + 1 = 297 := ⟨by decide +kernel, rfl⟩
theorem dMO_head_297 : decode b_MO_head 297 = .ok (.lcmp, 1) ∧ 297 + 1 = 298 := ⟨by decide +kernel, rfl⟩
theorem dMO_head_298 : decode b_MO_head 298 = .ok (.ifCond .le (12), 3) ∧ 298 + 3 = 301 ∧ ((298 : Nat) : Int) + (12) = ((310 : Nat) : Int) := ⟨by decide +kernel, rfl, by decide⟩
theorem dMO_head_301 : decode b_MO_head 301 = .ok (.aload_n 0, 1) ∧ 301 + 1 = 302 := ⟨by decide +kernel, rfl⟩
theorem dMO_head_302 : decode b_MO_head 302 = .ok (.bipush (9), 2) ∧ 302 + 2 = 304 := ⟨by decide +kernel, rfl⟩
theorem dMO_head_304 : decode b_MO_head 304 = .ok (.bipush (36), 2) ∧ 304 + 2 = 306 := ⟨by decide +kernel, rfl⟩
theorem dMO_head_306 : decode b_MO_head 306 = .ok (.invokevirtual 264, 3) ∧ 306 + 3 = 309 := ⟨by decide +kernel, rfl⟩
theorem dMO_head_309 : decode b_MO_head 309 = .ok (.ireturn, 1) ∧ 309 + 1 = 310 := ⟨by decide +kernel, rfl⟩
theorem dMO_head_310 : decode b_MO_head 310 = .ok (.aload_n 0, 1) ∧ 310 + 1 = 311 := ⟨by decide +kernel, rfl⟩
theorem dMO_head_311 : decode b_MO_head 311 = .ok (.bipush (40), 2) ∧ 311 + 2 = 313 := ⟨by decide +kernel, rfl⟩
theorem dMO_head_313 : decode b_MO_head 313 = .ok (.invokevirtual 249, 3) ∧ 313 + 3 = 316 := ⟨by decide +kernel, rfl⟩
theorem dMO_head_316 : decode b_MO_head 316 = .ok (.bipush (52), 2) ∧ 316 + 2 = 318 := ⟨by decide +kernel, rfl⟩
theorem dMO_head_318 : decode b_MO_head 318 = .ok (.if_icmp .eq (12), 3) ∧ 318 + 3 = 321 ∧ ((318 : Nat) : Int) + (12) = ((330 : Nat) : Int) := ⟨by decide +kernel, rfl, by decide⟩
theorem dMO_head_321 : decode b_MO_head 321 = .ok (.aload_n 0, 1) ∧ 321 + 1 = 322 := ⟨by decide +kernel, rfl⟩
theorem dMO_head_322 : decode b_MO_head 322 = .ok (.bipush (9), 2) ∧ 322 + 2 = 324 := ⟨by decide +kernel, rfl⟩
theorem dMO_head_324 : decode b_MO_head 324 = .ok (.bipush (40), 2) ∧ 324 + 2 = 326 := ⟨by decide +kernel, rfl⟩
theorem dMO_head_326 : decode b_MO_head 326 = .ok (.invokevirtual 264, 3) ∧ 326 + 3 = 329 := ⟨by decide +kernel, rfl⟩
theorem dMO_head_329 : decode b_MO_head 329 = .ok (.ireturn, 1) ∧ 329 + 1 = 330 := ⟨by decide +kernel, rfl⟩
theorem dMO_head_330 : decode b_MO_head 330 = .ok (.aload_n 0, 1) ∧ 330 + 1 = 331 := ⟨by decide +kernel, rfl⟩
theorem dMO_head_331 : decode b_MO_head 331 = .ok (.bipush (42), 2) ∧ 331 + 2 = 333 := ⟨by decide +kernel, rfl⟩
theorem dMO_head_333 : decode b_MO_head 333 = .ok (.invokevirtual 249, 3) ∧ 333 + 3 = 336 := ⟨by decide +kernel, rfl⟩
theorem dMO_head_336 : decode b_MO_head 336 = .ok (.ifCond .eq (12), 3) ∧ 336 + 3 = 339 ∧ ((336 : Nat) : Int) + (12) = ((348 : Nat) : Int) := ⟨by decide +kernel, rfl, by decide⟩
theorem dMO_head_339 : decode b_MO_head 339 = .ok (.aload_n 0, 1) ∧ 339 + 1 = 340 := ⟨by decide +kernel, rfl⟩
theorem dMO_head_340 : decode b_MO_head 340 = .ok (.bipush (9), 2) ∧ 340 + 2 = 342 := ⟨by decide +kernel, rfl⟩
theorem dMO_head_342 : decode b_MO_head 342 = .ok (.bipush (42), 2) ∧ 342 + 2 = 344 := ⟨by decide +kernel, rfl⟩
theorem dMO_head_344 : decode b_MO_head 344 = .ok (.invokevirtual 264, 3) ∧ 344 + 3 = 347 := ⟨by decide +kernel, rfl⟩
theorem dMO_head_347 : decode b_MO_head 347 = .ok (.ireturn, 1) ∧ 347 + 1 = 348 := ⟨by decide +kernel, rfl⟩
theorem dMO_head_348 : decode b_MO_head 348 = .ok (.aload_n 0, 1) ∧ 348 + 1 = 349 := ⟨by decide +kernel, rfl⟩
theorem dMO_head_349 : decode b_MO_head 349 = .ok (.bipush (44), 2) ∧ 349 + 2 = 351 := ⟨by decide +kernel, rfl⟩
theorem dMO_head_351 : decode b_MO_head 351 = .ok (.invokevirtual 249, 3) ∧ 351 + 3 = 354 := ⟨by decide +kernel, rfl⟩
theorem dMO_head_354 : decode b_MO_head 354 = .ok (.ifCond .eq (12), 3) ∧ 354 + 3 = 357 ∧ ((354 : Nat) : Int) + (12) = ((366 : Nat) : Int) := ⟨by decide +kernel, rfl, by decide⟩
theorem dMO_head_357 : decode b_MO_head 357 = .ok (.aload_n 0, 1) ∧ 357 + 1 = 358 := ⟨by decide +kernel, rfl⟩
theorem dMO_head_358 : decode b_MO_head 358 = .ok (.bipush (9), 2) ∧ 358 + 2 = 360 := ⟨by decide +kernel, rfl⟩
theorem dMO_head_360 : decode b_MO_head 360 = .ok (.bipush (44), 2) ∧ 360 + 2 = 362 := ⟨by decide +kernel, rfl⟩
theorem dMO_head_362 : decode b_MO_head 362 = .ok (.invokevirtual 264, 3) ∧ 362 + 3 = 365 := ⟨by decide +kernel, rfl⟩
theorem dMO_head_365 : decode b_MO_head 365 = .ok (.ireturn, 1) ∧ 365 + 1 = 366 := ⟨by decide +kernel, rfl⟩
theorem dMO_head_366 : decode b_MO_head 366 = .ok (.aload_n 0, 1) ∧ 366 + 1 = 367 := ⟨by decide +kernel, rfl⟩
theorem dMO_head_367 : decode b_MO_head 367 = .ok (.bipush (46), 2) ∧ 367 + 2 = 369 := ⟨by decide +kernel, rfl⟩
theorem dMO_head_369 : decode b_MO_head 369 = .ok (.invokevirtual 249, 3) ∧ 369 + 3 = 372 := ⟨by decide +kernel, rfl⟩
theorem dMO_head_372 : decode b_MO_head 372 = .ok (.bipush (40), 2) ∧ 372 + 2 = 374 := ⟨by decide +kernel, rfl⟩
theorem dMO_head_374 : decode b_MO_head 374 = .ok (.if_icmp .eq (12), 3) ∧ 374 + 3 = 377 ∧ ((374 : Nat) : Int) + (12) = ((386 : Nat) : Int) := ⟨by decide +kernel, rfl, by decide⟩
theorem dMO_head_377 : decode b_MO_head 377 = .ok (.aload_n 0, 1) ∧ 377 + 1 = 378 := ⟨by decide +kernel, rfl⟩
theorem dMO_head_378 : decode b_MO_head 378 = .ok (.bipush (9), 2) ∧ 378 + 2 = 380 := ⟨by decide +kernel, rfl⟩
theorem dMO_head_380 : decode b_MO_head 380 = .ok (.bipush (46), 2) ∧ 380 + 2 = 382 := ⟨by decide +kernel, rfl⟩
theorem dMO_head_382 : decode b_MO_head 382 = .ok (.invokevirtual 264, 3) ∧ 382 + 3 = 385 := ⟨by decide +kernel, rfl⟩
theorem dMO_head_385 : decode b_MO_head 385 = .ok (.ireturn, 1) ∧ 385 + 1 = 386 := ⟨by decide +kernel, rfl⟩
theorem dMO_head_386 : decode b_MO_head 386 = .ok (.aload_n 0, 1) ∧ 386 + 1 = 387 := ⟨by decide +kernel, rfl⟩
theorem dMO_head_387 : decode b_MO_head 387 = .ok (.aload_n 0, 1) ∧ 387 + 1 = 388 := ⟨by decide +kernel, rfl⟩
theorem dMO_head_388 : decode b_MO_head 388 = .ok (.bipush (48), 2) ∧ 388 + 2 = 390 := ⟨by decide +kernel, rfl⟩
theorem dMO_head_390 : decode b_MO_head 390 = .ok (.invokevirtual 249, 3) ∧ 390 + 3 = 393 := ⟨by decide +kernel, rfl⟩
theorem dMO_head_393 : decode b_MO_head 393 = .ok (.putfield 195, 3) ∧ 393 + 3 = 396 := ⟨by decide +kernel, rfl⟩
theorem dMO_head_396 : decode b_MO_head 396 = .ok (.aload_n 0, 1) ∧ 396 + 1 = 397 := ⟨by decide +kernel, rfl⟩
theorem dMO_head_397 : decode b_MO_head 397 = .ok (.getfield 195, 3) ∧ 397 + 3 = 400 := ⟨by decide +kernel, rfl⟩
theorem dMO_head_400 : decode b_MO_head 400 = .ok (.iconst 1, 1) ∧ 400 + 1 = 401 := ⟨by decide +kernel, rfl⟩
theorem dMO_head_401 : decode b_MO_head 401 = .ok (.if_icmp .lt (12), 3) ∧ 401 + 3 = 404 ∧ ((401 : Nat) : Int) + (12) = ((413 : Nat) : Int) := ⟨by decide +kernel, rfl, by decide⟩
theorem dMO_head_404 : decode b_MO_head 404 = .ok (.aload_n 0, 1) ∧ 404 + 1 = 405 := ⟨by decide +kernel, rfl⟩
theorem dMO_head_405 : decode b_MO_head 405 = .ok (.getfield 195, 3) ∧ 405 + 3 = 408 := ⟨by decide +kernel, rfl⟩
theorem dMO_head_408 : decode b_MO_head 408 = .ok (.bipush (16), 2) ∧ 408 + 2 = 410 := ⟨by decide +kernel, rfl⟩
theorem dMO_head_410 : decode b_MO_head 410 = .ok (.if_icmp .le (12), 3) ∧ 410 + 3 = 413 ∧ ((410 : Nat) : Int) + (12) = ((422 : Nat) : Int) := ⟨by decide +kernel, rfl, by decide⟩
theorem dMO_head_413 : decode b_MO_head 413 = .ok (.aload_n 0, 1) ∧ 413 + 1 = 414 := ⟨by decide +kernel, rfl⟩
theorem dMO_head_414 : decode b_MO_head 414 = .ok (.bipush (9), 2) ∧ 414 + 2 = 416 := ⟨by decide +kernel, rfl⟩
theorem dMO_head_416 : decode b_MO_head 416 = .ok (.bipush (48), 2) ∧ 416 + 2 = 418 := ⟨by decide +kernel, rfl⟩
theorem dMO_head_418 : decode b_MO_head 418 = .ok (.invokevirtual 264, 3) ∧ 418 + 3 = 421 := ⟨by decide +kernel, rfl⟩
theorem dMO_head_421 : decode b_MO_head 421 = .ok (.ireturn, 1) ∧ 421 + 1 = 422 := ⟨by decide +kernel, rfl⟩
theorem dMO_head_422 : decode b_MO_head 422 = .ok (.aload_n 0, 1) ∧ 422 + 1 = 423 := ⟨by decide +kernel, rfl⟩
theorem dMO_head_423 : decode b_MO_head 423 = .ok (.bipush (50), 2) ∧ 423 + 2 = 425 := ⟨by decide +kernel, rfl⟩
theorem dMO_head_425 : decode b_MO_head 425 = .ok (.invokevirtual 249, 3) ∧ 425 + 3 = 428 := ⟨by decide +kernel, rfl⟩
theorem dMO_head_428 : decode b_MO_head 428 = .ok (.istore_n 3, 1) ∧ 428 + 1 = 429 := ⟨by decide +kernel, rfl⟩
theorem dMO_head_429 : decode b_MO_head 429 = .ok (.iload_n 3, 1) ∧ 429 + 1 = 430 := ⟨by decide +kernel, rfl⟩
theorem dMO_head_430 : decode b_MO_head 430 = .ok (.iconst 1, 1) ∧ 430 + 1 = 431 := ⟨by decide +kernel, rfl⟩
theorem dMO_head_431 : decode b_MO_head 431 = .ok (.if_icmp .lt (11), 3) ∧ 431 + 3 = 434 ∧ ((431 : Nat) : Int) + (11) = ((442 : Nat) : Int) := ⟨by decide +kernel, rfl, by decide⟩
theorem dMO_head_434 : decode b_MO_head 434 = .ok (.iload_n 3, 1) ∧ 434 + 1 = 435 := ⟨by decide +kernel, rfl⟩
theorem dMO_head_435 : decode b_MO_head 435 = .ok (.aload_n 0, 1) ∧ 435 + 1 = 436 := ⟨by decide +kernel, rfl⟩
theorem dMO_head_436 : decode b_MO_head 436 = .ok (.getfield 195, 3) ∧ 436 + 3 = 439 := ⟨by decide +kernel, rfl⟩
theorem dMO_head_439 : decode b_MO_head 439 = .ok (.if_icmp .lt (12), 3) ∧ 439 + 3 = 442 ∧ ((439 : Nat) : Int) + (12) = ((451 : Nat) : Int) := ⟨by decide +kernel, rfl, by decide⟩
theorem dMO_head_442 : decode b_MO_head 442 = .ok (.aload_n 0, 1) ∧ 442 + 1 = 443 := ⟨by decide +kernel, rfl⟩
theorem dMO_head_443 : decode b_MO_head 443 = .ok (.bipush (9), 2) ∧ 443 + 2 = 445 := ⟨by decide +kernel, rfl⟩
theorem dMO_head_445 : decode b_MO_head 445 = .ok (.bipush (50), 2) ∧ 445 + 2 = 447 := ⟨by decide +kernel, rfl⟩
theorem dMO_head_447 : decode b_MO_head 447 = .ok (.invokevirtual 264, 3) ∧ 447 + 3 = 450 := ⟨by decide +kernel, rfl⟩
theorem dMO_head_450 : decode b_MO_head 450 = .ok (.ireturn, 1) ∧ 450 + 1 = 451 := ⟨by decide +kernel, rfl⟩
theorem dMO_head_451 : decode b_MO_head 451 = .ok (.lload_n 1, 1) ∧ 451 + 1 = 452 := ⟨by decide +kernel, rfl⟩
theorem dMO_head_452 : decode b_MO_head 452 = .ok (.ldc2_w 271, 3) ∧ 452 + 3 = 455 := ⟨by decide +kernel, rfl⟩
theorem dMO_head_455 : decode b_MO_head 455 = .ok (.aload_n 0, 1) ∧ 455 + 1 = 456 := ⟨by decide +kernel, rfl⟩
theorem dMO_head_456 : decode b_MO_head 456 = .ok (.getfield 195, 3) ∧ 456 + 3 = 459 := ⟨by decide +kernel, rfl⟩
theorem dMO_head_459 : decode b_MO_head 459 = .ok (.i2l, 1) ∧ 459 + 1 = 460 := ⟨by decide +kernel, rfl⟩
theorem dMO_head_460 : decode b_MO_head 460 = .ok (.lmul, 1) ∧ 460 + 1 = 461 := ⟨by decide +kernel, rfl⟩
theorem dMO_head_461 : decode b_MO_head 461 = .ok (.ladd, 1) ∧ 461 + 1 = 462 := ⟨by decide +kernel, rfl⟩
theorem dMO_head_462 : decode b_MO_head 462 = .ok (.aload_n 0, 1) ∧ 462 + 1 = 463 := ⟨by decide +kernel, rfl⟩
theorem dMO_head_463 : decode b_MO_head 463 = .ok (.getfield 233, 3) ∧ 463 + 3 = 466 := ⟨by decide +kernel, rfl⟩
theorem dMO_head_466 : decode b_MO_head 466 = .ok (.i2l, 1) ∧ 466 + 1 = 467 := ⟨by decide +kernel, rfl⟩
theorem dMO_head_467 : decode b_MO_head 467 = .ok (.lcmp, 1) ∧ 467 + 1 = 468 := ⟨by decide +kernel, rfl⟩
theorem dMO_head_468 : decode b_MO_head 468 = .ok (.ifCond .le (12), 3) ∧ 468 + 3 = 471 ∧ ((468 : Nat) : Int) + (12) = ((480 : Nat) : Int) := ⟨by decide +kernel, rfl, by decide⟩
theorem dMO_head_471 : decode b_MO_head 471 = .ok (.aload_n 0, 1) ∧ 471 + 1 = 472 := ⟨by decide +kernel, rfl⟩
theorem dMO_head_472 : decode b_MO_head 472 = .ok (.bipush (10), 2) ∧ 472 + 2 = 474 := ⟨by decide +kernel, rfl⟩
theorem dMO_head_474 : decode b_MO_head 474 = .ok (.bipush (32), 2) ∧ 474 + 2 = 476 := ⟨by decide +kernel, rfl⟩
theorem dMO_head_476 : decode b_MO_head 476 = .ok (.invokevirtual 264, 3) ∧ 476 + 3 = 479 := ⟨by decide +kernel, rfl⟩
theorem dMO_head_479 : decode b_MO_head 479 = .ok (.ireturn, 1) ∧ 479 + 1 = 480 := ⟨by decide +kernel, rfl⟩
theorem dMO_head_480 : decode b_MO_head 480 = .ok (.aload_n 0, 1) ∧ 480 + 1 = 481 := ⟨by decide +kernel, rfl⟩
theorem dMO_head_481 : decode b_MO_head 481 = .ok (.lload_n 1, 1) ∧ 481 + 1 = 482 := ⟨by decide +kernel, rfl⟩
theorem dMO_head_482 : decode b_MO_head 482 = .ok (.l2i, 1) ∧ 482 + 1 = 483 := ⟨by decide +kernel, rfl⟩
theorem dMO_head_483 : decode b_MO_head 483 = .ok (.putfield 254, 3) ∧ 483 + 3 = 486 := ⟨by decide +kernel, rfl⟩
theorem dMO_head_486 : decode b_MO_head 486 = .ok (.iconst 0, 1) ∧ 486 + 1 = 487 := ⟨by decide +kernel, rfl⟩
theorem dMO_head_487 : decode b_MO_head 487 = .ok (.ireturn, 1) ∧ 487 + 1 = 488 := ⟨by decide +kernel, rfl⟩
theorem dMO_spotOf_0 : decode b_MO_spotOf 0 = .ok (.aload_n 0, 1) ∧ 0 + 1 = 1 := ⟨by decide +kernel, rfl⟩
theorem dMO_spotOf_1 : decode b_MO_spotOf 1 = .ok (.getfield 254, 3) ∧ 1 + 3 = 4 := ⟨by decide +kernel, rfl⟩
theorem dMO_spotOf_4 : decode b_MO_spotOf 4 = .ok (.bipush (40), 2) ∧ 4 + 2 = 6 := ⟨by decide +kernel, rfl⟩
theorem dMO_spotOf_6 : decode b_MO_spotOf 6 = .ok (.iload_n 1, 1) ∧ 6 + 1 = 7 := ⟨by decide +kernel, rfl⟩
theorem dMO_spotOf_7 : decode b_MO_spotOf 7 = .ok (.imul, 1) ∧ 7 + 1 = 8 := ⟨by decide +kernel, rfl⟩
theorem dMO_spotOf_8 : decode b_MO_spotOf 8 = .ok (.iadd, 1) ∧ 8 + 1 = 9 := ⟨by decide +kernel, rfl⟩
theorem dMO_spotOf_9 : decode b_MO_spotOf 9 = .ok (.iconst 4, 1) ∧ 9 + 1 = 10 := ⟨by decide +kernel, rfl⟩
theorem dMO_spotOf_10 : decode b_MO_spotOf 10 = .ok (.iload_n 2, 1) ∧ 10 + 1 = 11 := ⟨by decide +kernel, rfl⟩
theorem dMO_spotOf_11 : decode b_MO_spotOf 11 = .ok (.imul, 1) ∧ 11 + 1 = 12 := ⟨by decide +kernel, rfl⟩
theorem dMO_spotOf_12 : decode b_MO_spotOf 12 = .ok (.iadd, 1) ∧ 12 + 1 = 13 := ⟨by decide +kernel, rfl⟩
theorem dMO_spotOf_13 : decode b_MO_spotOf 13 = .ok (.ireturn, 1) ∧ 13 + 1 = 14 := ⟨by decide +kernel, rfl⟩
theorem dMO_told_0 : decode b_MO_told 0 = .ok (.aload_n 0, 1) ∧ 0 + 1 = 1 := ⟨by decide +kernel, rfl⟩
theorem dMO_told_1 : decode b_MO_told 1 = .ok (.aload_n 0, 1) ∧ 1 + 1 = 2 := ⟨by decide +kernel, rfl⟩
theorem dMO_told_2 : decode b_MO_told 2 = .ok (.iload_n 1, 1) ∧ 2 + 1 = 3 := ⟨by decide +kernel, rfl⟩
theorem dMO_told_3 : decode b_MO_told 3 = .ok (.iload_n 2, 1) ∧ 3 + 1 = 4 := ⟨by decide +kernel, rfl⟩
theorem dMO_told_4 : decode b_MO_told 4 = .ok (.invokevirtual 257, 3) ∧ 4 + 3 = 7 := ⟨by decide +kernel, rfl⟩
theorem dMO_told_7 : decode b_MO_told 7 = .ok (.invokevirtual 260, 3) ∧ 7 + 3 = 10 := ⟨by decide +kernel, rfl⟩
theorem dMO_told_10 : decode b_MO_told 10 = .ok (.lreturn, 1) ∧ 10 + 1 = 11 := ⟨by decide +kernel, rfl⟩
theorem dMO_isTitle_0 : decode b_MO_isTitle 0 = .ok (.iconst 0, 1) ∧ 0 + 1 = 1 := ⟨by decide +kernel, rfl⟩
theorem dMO_isTitle_1 : decode b_MO_isTitle 1 = .ok (.istore_n 3, 1) ∧ 1 + 1 = 2 := ⟨by decide +kernel, rfl⟩
theorem dMO_isTitle_2 : decode b_MO_isTitle 2 = .ok (.aload_n 0, 1) ∧ 2 + 1 = 3 := ⟨by decide +kernel, rfl⟩
theorem dMO_isTitle_3 : decode b_MO_isTitle 3 = .ok (.getfield 77, 3) ∧ 3 + 3 = 6 := ⟨by decide +kernel, rfl⟩
theorem dMO_isTitle_6 : decode b_MO_isTitle 6 = .ok (.aload_n 0, 1) ∧ 6 + 1 = 7 := ⟨by decide +kernel, rfl⟩
theorem dMO_isTitle_7 : decode b_MO_isTitle 7 = .ok (.getfield 80, 3) ∧ 7 + 3 = 10 := ⟨by decide +kernel, rfl⟩
theorem dMO_isTitle_10 : decode b_MO_isTitle 10 = .ok (.iload_n 1, 1) ∧ 10 + 1 = 11 := ⟨by decide +kernel, rfl⟩
theorem dMO_isTitle_11 : decode b_MO_isTitle 11 = .ok (.iaload, 1) ∧ 11 + 1 = 12 := ⟨by decide +kernel, rfl⟩
theorem dMO_isTitle_12 : decode b_MO_isTitle 12 = .ok (.iload_n 3, 1) ∧ 12 + 1 = 13 := ⟨by decide +kernel, rfl⟩
theorem dMO_isTitle_13 : decode b_MO_isTitle 13 = .ok (.iadd, 1) ∧ 13 + 1 = 14 := ⟨by decide +kernel, rfl⟩
theorem dMO_isTitle_14 : decode b_MO_isTitle 14 = .ok (.iaload, 1) ∧ 14 + 1 = 15 := ⟨by decide +kernel, rfl⟩
theorem dMO_isTitle_15 : decode b_MO_isTitle 15 = .ok (.ifCond .eq (33), 3) ∧ 15 + 3 = 18 ∧ ((15 : Nat) : Int) + (33) = ((48 : Nat) : Int) := ⟨by decide +kernel, rfl, by decide⟩
theorem dMO_isTitle_18 : decode b_MO_isTitle 18 = .ok (.aload_n 0, 1) ∧ 18 + 1 = 19 := ⟨by decide +kernel, rfl⟩
theorem dMO_isTitle_19 : decode b_MO_isTitle 19 = .ok (.getfield 70, 3) ∧ 19 + 3 = 22 := ⟨by decide +kernel, rfl⟩
theorem dMO_isTitle_22 : decode b_MO_isTitle 22 = .ok (.iload_n 2, 1) ∧ 22 + 1 = 23 := ⟨by decide +kernel, rfl⟩
theorem dMO_isTitle_23 : decode b_MO_isTitle 23 = .ok (.iload_n 3, 1) ∧ 23 + 1 = 24 := ⟨by decide +kernel, rfl⟩
theorem dMO_isTitle_24 : decode b_MO_isTitle 24 = .ok (.iadd, 1) ∧ 24 + 1 = 25 := ⟨by decide +kernel, rfl⟩
theorem dMO_isTitle_25 : decode b_MO_isTitle 25 = .ok (.iaload, 1) ∧ 25 + 1 = 26 := ⟨by decide +kernel, rfl⟩
theorem dMO_isTitle_26 : decode b_MO_isTitle 26 = .ok (.aload_n 0, 1) ∧ 26 + 1 = 27 := ⟨by decide +kernel, rfl⟩
theorem dMO_isTitle_27 : decode b_MO_isTitle 27 = .ok (.getfield 77, 3) ∧ 27 + 3 = 30 := ⟨by decide +kernel, rfl⟩
theorem dMO_isTitle_30 : decode b_MO_isTitle 30 = .ok (.aload_n 0, 1) ∧ 30 + 1 = 31 := ⟨by decide +kernel, rfl⟩
theorem dMO_isTitle_31 : decode b_MO_isTitle 31 = .ok (.getfield 80, 3) ∧ 31 + 3 = 34 := ⟨by decide +kernel, rfl⟩
theorem dMO_isTitle_34 : decode b_MO_isTitle 34 = .ok (.iload_n 1, 1) ∧ 34 + 1 = 35 := ⟨by decide +kernel, rfl⟩
theorem dMO_isTitle_35 : decode b_MO_isTitle 35 = .ok (.iaload, 1) ∧ 35 + 1 = 36 := ⟨by decide +kernel, rfl⟩
theorem dMO_isTitle_36 : decode b_MO_isTitle 36 = .ok (.iload_n 3, 1) ∧ 36 + 1 = 37 := ⟨by decide +kernel, rfl⟩
theorem dMO_isTitle_37 : decode b_MO_isTitle 37 = .ok (.iadd, 1) ∧ 37 + 1 = 38 := ⟨by decide +kernel, rfl⟩
theorem dMO_isTitle_38 : decode b_MO_isTitle 38 = .ok (.iaload, 1) ∧ 38 + 1 = 39 := ⟨by decide +kernel, rfl⟩
theorem dMO_isTitle_39 : decode b_MO_isTitle 39 = .ok (.if_icmp .ne (9), 3) ∧ 39 + 3 = 42 ∧ ((39 : Nat) : Int) + (9) = ((48 : Nat) : Int) := ⟨by decide +kernel, rfl, by decide⟩
theorem dMO_isTitle_42 : decode b_MO_isTitle 42 = .ok (.iinc 3 (1), 3) ∧ 42 + 3 = 45 := ⟨by decide +kernel, rfl⟩
theorem dMO_isTitle_45 : decode b_MO_isTitle 45 = .ok (.goto (-43), 3) ∧ 45 + 3 = 48 ∧ ((45 : Nat) : Int) + (-43) = ((2 : Nat) : Int) := ⟨by decide +kernel, rfl, by decide⟩
theorem dMO_isTitle_48 : decode b_MO_isTitle 48 = .ok (.aload_n 0, 1) ∧ 48 + 1 = 49 := ⟨by decide +kernel, rfl⟩
theorem dMO_isTitle_49 : decode b_MO_isTitle 49 = .ok (.getfield 77, 3) ∧ 49 + 3 = 52 := ⟨by decide +kernel, rfl⟩
theorem dMO_isTitle_52 : decode b_MO_isTitle 52 = .ok (.aload_n 0, 1) ∧ 52 + 1 = 53 := ⟨by decide +kernel, rfl⟩
theorem dMO_isTitle_53 : decode b_MO_isTitle 53 = .ok (.getfield 80, 3) ∧ 53 + 3 = 56 := ⟨by decide +kernel, rfl⟩
theorem dMO_isTitle_56 : decode b_MO_isTitle 56 = .ok (.iload_n 1, 1) ∧ 56 + 1 = 57 := ⟨by decide +kernel, rfl⟩
theorem dMO_isTitle_57 : decode b_MO_isTitle 57 = .ok (.iaload, 1) ∧ 57 + 1 = 58 := ⟨by decide +kernel, rfl⟩
theorem dMO_isTitle_58 : decode b_MO_isTitle 58 = .ok (.iload_n 3, 1) ∧ 58 + 1 = 59 := ⟨by decide +kernel, rfl⟩
theorem dMO_isTitle_59 : decode b_MO_isTitle 59 = .ok (.iadd, 1) ∧ 59 + 1 = 60 := ⟨by decide +kernel, rfl⟩
theorem dMO_isTitle_60 : decode b_MO_isTitle 60 = .ok (.iaload, 1) ∧ 60 + 1 = 61 := ⟨by decide +kernel, rfl⟩
theorem dMO_isTitle_61 : decode b_MO_isTitle 61 = .ok (.ifCond .ne (18), 3) ∧ 61 + 3 = 64 ∧ ((61 : Nat) : Int) + (18) = ((79 : Nat) : Int) := ⟨by decide +kernel, rfl, by decide⟩
theorem dMO_isTitle_64 : decode b_MO_isTitle 64 = .ok (.aload_n 0, 1) ∧ 64 + 1 = 65 := ⟨by decide +kernel, rfl⟩
theorem dMO_isTitle_65 : decode b_MO_isTitle 65 = .ok (.getfield 70, 3) ∧ 65 + 3 = 68 := ⟨by decide +kernel, rfl⟩
theorem dMO_isTitle_68 : decode b_MO_isTitle 68 = .ok (.iload_n 2, 1) ∧ 68 + 1 = 69 := ⟨by decide +kernel, rfl⟩
theorem dMO_isTitle_69 : decode b_MO_isTitle 69 = .ok (.iload_n 3, 1) ∧ 69 + 1 = 70 := ⟨by decide +kernel, rfl⟩
theorem dMO_isTitle_70 : decode b_MO_isTitle 70 = .ok (.iadd, 1) ∧ 70 + 1 = 71 := ⟨by decide +kernel, rfl⟩
theorem dMO_isTitle_71 : decode b_MO_isTitle 71 = .ok (.iaload, 1) ∧ 71 + 1 = 72 := ⟨by decide +kernel, rfl⟩
theorem dMO_isTitle_72 : decode b_MO_isTitle 72 = .ok (.ifCond .ne (7), 3) ∧ 72 + 3 = 75 ∧ ((72 : Nat) : Int) + (7) = ((79 : Nat) : Int) := ⟨by decide +kernel, rfl, by decide⟩
theorem dMO_isTitle_75 : decode b_MO_isTitle 75 = .ok (.iconst 1, 1) ∧ 75 + 1 = 76 := ⟨by decide +kernel, rfl⟩
theorem dMO_isTitle_76 : decode b_MO_isTitle 76 = .ok (.goto (4), 3) ∧ 76 + 3 = 79 ∧ ((76 : Nat) : Int) + (4) = ((80 : Nat) : Int) := ⟨by decide +kernel, rfl, by decide⟩
theorem dMO_isTitle_79 : decode b_MO_isTitle 79 = .ok (.iconst 0, 1) ∧ 79 + 1 = 80 := ⟨by decide +kernel, rfl⟩
theorem dMO_isTitle_80 : decode b_MO_isTitle 80 = .ok (.ireturn, 1) ∧ 80 + 1 = 81 := ⟨by decide +kernel, rfl⟩
