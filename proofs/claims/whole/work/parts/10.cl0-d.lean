theorem dAR_fill1_0 : decode b_AR_fill1 0 = .ok (.iconst 0, 1) ∧ 0 + 1 = 1 := ⟨by decide +kernel, rfl⟩
theorem dAR_fill1_1 : decode b_AR_fill1 1 = .ok (.istore_n 2, 1) ∧ 1 + 1 = 2 := ⟨by decide +kernel, rfl⟩
theorem dAR_fill1_2 : decode b_AR_fill1 2 = .ok (.aload_n 0, 1) ∧ 2 + 1 = 3 := ⟨by decide +kernel, rfl⟩
theorem dAR_fill1_3 : decode b_AR_fill1 3 = .ok (.arraylength, 1) ∧ 3 + 1 = 4 := ⟨by decide +kernel, rfl⟩
theorem dAR_fill1_4 : decode b_AR_fill1 4 = .ok (.istore_n 3, 1) ∧ 4 + 1 = 5 := ⟨by decide +kernel, rfl⟩
theorem dAR_fill1_5 : decode b_AR_fill1 5 = .ok (.iload_n 2, 1) ∧ 5 + 1 = 6 := ⟨by decide +kernel, rfl⟩
theorem dAR_fill1_6 : decode b_AR_fill1 6 = .ok (.iload_n 3, 1) ∧ 6 + 1 = 7 := ⟨by decide +kernel, rfl⟩
theorem dAR_fill1_7 : decode b_AR_fill1 7 = .ok (.if_icmp .ge (13), 3) ∧ 7 + 3 = 10 ∧ ((7 : Nat) : Int) + (13) = ((20 : Nat) : Int) := ⟨by decide +kernel, rfl, by decide⟩
theorem dAR_fill1_10 : decode b_AR_fill1 10 = .ok (.aload_n 0, 1) ∧ 10 + 1 = 11 := ⟨by decide +kernel, rfl⟩
theorem dAR_fill1_11 : decode b_AR_fill1 11 = .ok (.iload_n 2, 1) ∧ 11 + 1 = 12 := ⟨by decide +kernel, rfl⟩
theorem dAR_fill1_12 : decode b_AR_fill1 12 = .ok (.iload_n 1, 1) ∧ 12 + 1 = 13 := ⟨by decide +kernel, rfl⟩
theorem dAR_fill1_13 : decode b_AR_fill1 13 = .ok (.iastore, 1) ∧ 13 + 1 = 14 := ⟨by decide +kernel, rfl⟩
theorem dAR_fill1_14 : decode b_AR_fill1 14 = .ok (.iinc 2 (1), 3) ∧ 14 + 3 = 17 := ⟨by decide +kernel, rfl⟩
theorem dAR_fill1_17 : decode b_AR_fill1 17 = .ok (.goto (-12), 3) ∧ 17 + 3 = 20 ∧ ((17 : Nat) : Int) + (-12) = ((5 : Nat) : Int) := ⟨by decide +kernel, rfl, by decide⟩
theorem dAR_fill1_20 : decode b_AR_fill1 20 = .ok (.return_, 1) ∧ 20 + 1 = 21 := ⟨by decide +kernel, rfl⟩
theorem dCT_reset_0 : decode b_CT_reset 0 = .ok (.aload_n 0, 1) ∧ 0 + 1 = 1 := ⟨by decide +kernel, rfl⟩
theorem dCT_reset_1 : decode b_CT_reset 1 = .ok (.getfield 15, 3) ∧ 1 + 3 = 4 := ⟨by decide +kernel, rfl⟩
theorem dCT_reset_4 : decode b_CT_reset 4 = .ok (.iconst 0, 1) ∧ 4 + 1 = 5 := ⟨by decide +kernel, rfl⟩
theorem dCT_reset_5 : decode b_CT_reset 5 = .ok (.invokestatic 34, 3) ∧ 5 + 3 = 8 := ⟨by decide +kernel, rfl⟩
theorem dCT_reset_8 : decode b_CT_reset 8 = .ok (.aload_n 0, 1) ∧ 8 + 1 = 9 := ⟨by decide +kernel, rfl⟩
theorem dCT_reset_9 : decode b_CT_reset 9 = .ok (.getfield 19, 3) ∧ 9 + 3 = 12 := ⟨by decide +kernel, rfl⟩
theorem dCT_reset_12 : decode b_CT_reset 12 = .ok (.iconst 1, 1) ∧ 12 + 1 = 13 := ⟨by decide +kernel, rfl⟩
theorem dCT_reset_13 : decode b_CT_reset 13 = .ok (.invokestatic 34, 3) ∧ 13 + 3 = 16 := ⟨by decide +kernel, rfl⟩
theorem dCT_reset_16 : decode b_CT_reset 16 = .ok (.aload_n 0, 1) ∧ 16 + 1 = 17 := ⟨by decide +kernel, rfl⟩
theorem dCT_reset_17 : decode b_CT_reset 17 = .ok (.iconst 0, 1) ∧ 17 + 1 = 18 := ⟨by decide +kernel, rfl⟩
theorem dCT_reset_18 : decode b_CT_reset 18 = .ok (.putfield 40, 3) ∧ 18 + 3 = 21 := ⟨by decide +kernel, rfl⟩
theorem dCT_reset_21 : decode b_CT_reset 21 = .ok (.aload_n 0, 1) ∧ 21 + 1 = 22 := ⟨by decide +kernel, rfl⟩
theorem dCT_reset_22 : decode b_CT_reset 22 = .ok (.iconst 0, 1) ∧ 22 + 1 = 23 := ⟨by decide +kernel, rfl⟩
theorem dCT_reset_23 : decode b_CT_reset 23 = .ok (.putfield 44, 3) ∧ 23 + 3 = 26 := ⟨by decide +kernel, rfl⟩
theorem dCT_reset_26 : decode b_CT_reset 26 = .ok (.aload_n 0, 1) ∧ 26 + 1 = 27 := ⟨by decide +kernel, rfl⟩
theorem dCT_reset_27 : decode b_CT_reset 27 = .ok (.iconst 0, 1) ∧ 27 + 1 = 28 := ⟨by decide +kernel, rfl⟩
theorem dCT_reset_28 : decode b_CT_reset 28 = .ok (.putfield 47, 3) ∧ 28 + 3 = 31 := ⟨by decide +kernel, rfl⟩
theorem dCT_reset_31 : decode b_CT_reset 31 = .ok (.return_, 1) ∧ 31 + 1 = 32 := ⟨by decide +kernel, rfl⟩
theorem dOF_clear_0 : decode b_OF_clear 0 = .ok (.aload_n 0, 1) ∧ 0 + 1 = 1 := ⟨by decide +kernel, rfl⟩
theorem dOF_clear_1 : decode b_OF_clear 1 = .ok (.getfield 12, 3) ∧ 1 + 3 = 4 := ⟨by decide +kernel, rfl⟩
theorem dOF_clear_4 : decode b_OF_clear 4 = .ok (.invokevirtual 64, 3) ∧ 4 + 3 = 7 := ⟨by decide +kernel, rfl⟩
theorem dOF_clear_7 : decode b_OF_clear 7 = .ok (.aload_n 0, 1) ∧ 7 + 1 = 8 := ⟨by decide +kernel, rfl⟩
theorem dOF_clear_8 : decode b_OF_clear 8 = .ok (.iconst 0, 1) ∧ 8 + 1 = 9 := ⟨by decide +kernel, rfl⟩
theorem dOF_clear_9 : decode b_OF_clear 9 = .ok (.putfield 67, 3) ∧ 9 + 3 = 12 := ⟨by decide +kernel, rfl⟩
theorem dOF_clear_12 : decode b_OF_clear 12 = .ok (.return_, 1) ∧ 12 + 1 = 13 := ⟨by decide +kernel, rfl⟩
theorem dCT_append_0 : decode b_CT_append 0 = .ok (.iload_n 1, 1) ∧ 0 + 1 = 1 := ⟨by decide +kernel, rfl⟩
theorem dCT_append_1 : decode b_CT_append 1 = .ok (.ifCond .lt (33), 3) ∧ 1 + 3 = 4 ∧ ((1 : Nat) : Int) + (33) = ((34 : Nat) : Int) := ⟨by decide +kernel, rfl, by decide⟩
theorem dCT_append_4 : decode b_CT_append 4 = .ok (.iload_n 1, 1) ∧ 4 + 1 = 5 := ⟨by decide +kernel, rfl⟩
theorem dCT_append_5 : decode b_CT_append 5 = .ok (.iconst 2, 1) ∧ 5 + 1 = 6 := ⟨by decide +kernel, rfl⟩
theorem dCT_append_6 : decode b_CT_append 6 = .ok (.if_icmp .gt (28), 3) ∧ 6 + 3 = 9 ∧ ((6 : Nat) : Int) + (28) = ((34 : Nat) : Int) := ⟨by decide +kernel, rfl, by decide⟩
theorem dCT_append_9 : decode b_CT_append 9 = .ok (.iload_n 2, 1) ∧ 9 + 1 = 10 := ⟨by decide +kernel, rfl⟩
theorem dCT_append_10 : decode b_CT_append 10 = .ok (.iconst 1, 1) ∧ 10 + 1 = 11 := ⟨by decide +kernel, rfl⟩
theorem dCT_append_11 : decode b_CT_append 11 = .ok (.if_icmp .lt (23), 3) ∧ 11 + 3 = 14 ∧ ((11 : Nat) : Int) + (23) = ((34 : Nat) : Int) := ⟨by decide +kernel, rfl, by decide⟩
theorem dCT_append_14 : decode b_CT_append 14 = .ok (.iload_n 2, 1) ∧ 14 + 1 = 15 := ⟨by decide +kernel, rfl⟩
theorem dCT_append_15 : decode b_CT_append 15 = .ok (.bipush (8), 2) ∧ 15 + 2 = 17 := ⟨by decide +kernel, rfl⟩
theorem dCT_append_17 : decode b_CT_append 17 = .ok (.if_icmp .gt (17), 3) ∧ 17 + 3 = 20 ∧ ((17 : Nat) : Int) + (17) = ((34 : Nat) : Int) := ⟨by decide +kernel, rfl, by decide⟩
theorem dCT_append_20 : decode b_CT_append 20 = .ok (.aload_n 0, 1) ∧ 20 + 1 = 21 := ⟨by decide +kernel, rfl⟩
theorem dCT_append_21 : decode b_CT_append 21 = .ok (.getfield 15, 3) ∧ 21 + 3 = 24 := ⟨by decide +kernel, rfl⟩
theorem dCT_append_24 : decode b_CT_append 24 = .ok (.iload_n 1, 1) ∧ 24 + 1 = 25 := ⟨by decide +kernel, rfl⟩
theorem dCT_append_25 : decode b_CT_append 25 = .ok (.iaload, 1) ∧ 25 + 1 = 26 := ⟨by decide +kernel, rfl⟩
theorem dCT_append_26 : decode b_CT_append 26 = .ok (.iload_n 2, 1) ∧ 26 + 1 = 27 := ⟨by decide +kernel, rfl⟩
theorem dCT_append_27 : decode b_CT_append 27 = .ok (.iadd, 1) ∧ 27 + 1 = 28 := ⟨by decide +kernel, rfl⟩
theorem dCT_append_28 : decode b_CT_append 28 = .ok (.sipush (2048), 3) ∧ 28 + 3 = 31 := ⟨by decide +kernel, rfl⟩
theorem dCT_append_31 : decode b_CT_append 31 = .ok (.if_icmp .le (5), 3) ∧ 31 + 3 = 34 ∧ ((31 : Nat) : Int) + (5) = ((36 : Nat) : Int) := ⟨by decide +kernel, rfl, by decide⟩
theorem dCT_append_34 : decode b_CT_append 34 = .ok (.iconst 0, 1) ∧ 34 + 1 = 35 := ⟨by decide +kernel, rfl⟩
theorem dCT_append_35 : decode b_CT_append 35 = .ok (.ireturn, 1) ∧ 35 + 1 = 36 := ⟨by decide +kernel, rfl⟩
theorem dCT_append_36 : decode b_CT_append 36 = .ok (.iconst 0, 1) ∧ 36 + 1 = 37 := ⟨by decide +kernel, rfl⟩
theorem dCT_append_37 : decode b_CT_append 37 = .ok (.istore 5, 2) ∧ 37 + 2 = 39 := ⟨by decide +kernel, rfl⟩
theorem dCT_append_39 : decode b_CT_append 39 = .ok (.iload 5, 2) ∧ 39 + 2 = 41 := ⟨by decide +kernel, rfl⟩
theorem dCT_append_41 : decode b_CT_append 41 = .ok (.iload_n 2, 1) ∧ 41 + 1 = 42 := ⟨by decide +kernel, rfl⟩
theorem dCT_append_42 : decode b_CT_append 42 = .ok (.if_icmp .ge (48), 3) ∧ 42 + 3 = 45 ∧ ((42 : Nat) : Int) + (48) = ((90 : Nat) : Int) := ⟨by decide +kernel, rfl, by decide⟩
theorem dCT_append_45 : decode b_CT_append 45 = .ok (.aload_n 0, 1) ∧ 45 + 1 = 46 := ⟨by decide +kernel, rfl⟩
theorem dCT_append_46 : decode b_CT_append 46 = .ok (.getfield 9, 3) ∧ 46 + 3 = 49 := ⟨by decide +kernel, rfl⟩
theorem dCT_append_49 : decode b_CT_append 49 = .ok (.iload_n 1, 1) ∧ 49 + 1 = 50 := ⟨by decide +kernel, rfl⟩
theorem dCT_append_50 : decode b_CT_append 50 = .ok (.sipush (2048), 3) ∧ 50 + 3 = 53 := ⟨by decide +kernel, rfl⟩
theorem dCT_append_53 : decode b_CT_append 53 = .ok (.imul, 1) ∧ 53 + 1 = 54 := ⟨by decide +kernel, rfl⟩
theorem dCT_append_54 : decode b_CT_append 54 = .ok (.aload_n 0, 1) ∧ 54 + 1 = 55 := ⟨by decide +kernel, rfl⟩
theorem dCT_append_55 : decode b_CT_append 55 = .ok (.getfield 15, 3) ∧ 55 + 3 = 58 := ⟨by decide +kernel, rfl⟩
theorem dCT_append_58 : decode b_CT_append 58 = .ok (.iload_n 1, 1) ∧ 58 + 1 = 59 := ⟨by decide +kernel, rfl⟩
theorem dCT_append_59 : decode b_CT_append 59 = .ok (.iaload, 1) ∧ 59 + 1 = 60 := ⟨by decide +kernel, rfl⟩
theorem dCT_append_60 : decode b_CT_append 60 = .ok (.iadd, 1) ∧ 60 + 1 = 61 := ⟨by decide +kernel, rfl⟩
theorem dCT_append_61 : decode b_CT_append 61 = .ok (.lload_n 3, 1) ∧ 61 + 1 = 62 := ⟨by decide +kernel, rfl⟩
theorem dCT_append_62 : decode b_CT_append 62 = .ok (.bipush (56), 2) ∧ 62 + 2 = 64 := ⟨by decide +kernel, rfl⟩
theorem dCT_append_64 : decode b_CT_append 64 = .ok (.bipush (8), 2) ∧ 64 + 2 = 66 := ⟨by decide +kernel, rfl⟩
theorem dCT_append_66 : decode b_CT_append 66 = .ok (.iload 5, 2) ∧ 66 + 2 = 68 := ⟨by decide +kernel, rfl⟩
theorem dCT_append_68 : decode b_CT_append 68 = .ok (.imul, 1) ∧ 68 + 1 = 69 := ⟨by decide +kernel, rfl⟩
theorem dCT_append_69 : decode b_CT_append 69 = .ok (.isub, 1) ∧ 69 + 1 = 70 := ⟨by decide +kernel, rfl⟩
theorem dCT_append_70 : decode b_CT_append 70 = .ok (.lushr, 1) ∧ 70 + 1 = 71 := ⟨by decide +kernel, rfl⟩
theorem dCT_append_71 : decode b_CT_append 71 = .ok (.l2i, 1) ∧ 71 + 1 = 72 := ⟨by decide +kernel, rfl⟩
theorem dCT_append_72 : decode b_CT_append 72 = .ok (.i2b, 1) ∧ 72 + 1 = 73 := ⟨by decide +kernel, rfl⟩
theorem dCT_append_73 : decode b_CT_append 73 = .ok (.bastore, 1) ∧ 73 + 1 = 74 := ⟨by decide +kernel, rfl⟩
theorem dCT_append_74 : decode b_CT_append 74 = .ok (.aload_n 0, 1) ∧ 74 + 1 = 75 := ⟨by decide +kernel, rfl⟩
theorem dCT_append_75 : decode b_CT_append 75 = .ok (.getfield 15, 3) ∧ 75 + 3 = 78 := ⟨by decide +kernel, rfl⟩
theorem dCT_append_78 : decode b_CT_append 78 = .ok (.iload_n 1, 1) ∧ 78 + 1 = 79 := ⟨by decide +kernel, rfl⟩
theorem dCT_append_79 : decode b_CT_append 79 = .ok (.dup2, 1) ∧ 79 + 1 = 80 := ⟨by decide +kernel, rfl⟩
theorem dCT_append_80 : decode b_CT_append 80 = .ok (.iaload, 1) ∧ 80 + 1 = 81 := ⟨by decide +kernel, rfl⟩
theorem dCT_append_81 : decode b_CT_append 81 = .ok (.iconst 1, 1) ∧ 81 + 1 = 82 := ⟨by decide +kernel, rfl⟩
theorem dCT_append_82 : decode b_CT_append 82 = .ok (.iadd, 1) ∧ 82 + 1 = 83 := ⟨by decide +kernel, rfl⟩
theorem dCT_append_83 : decode b_CT_append 83 = .ok (.iastore, 1) ∧ 83 + 1 = 84 := ⟨by decide +kernel, rfl⟩
theorem dCT_append_84 : decode b_CT_append 84 = .ok (.iinc 5 (1), 3) ∧ 84 + 3 = 87 := ⟨by decide +kernel, rfl⟩
theorem dCT_append_87 : decode b_CT_append 87 = .ok (.goto (-48), 3) ∧ 87 + 3 = 90 ∧ ((87 : Nat) : Int) + (-48) = ((39 : Nat) : Int) := ⟨by decide +kernel, rfl, by decide⟩
theorem dCT_append_90 : decode b_CT_append 90 = .ok (.iconst 1, 1) ∧ 90 + 1 = 91 := ⟨by decide +kernel, rfl⟩
theorem dCT_append_91 : decode b_CT_append 91 = .ok (.ireturn, 1) ∧ 91 + 1 = 92 := ⟨by decide +kernel, rfl⟩
theorem dOF_put_0 : decode b_OF_put 0 = .ok (.aload_n 0, 1) ∧ 0 + 1 = 1 := ⟨by decide +kernel, rfl⟩
theorem dOF_put_1 : decode b_OF_put 1 = .ok (.getfield 12, 3) ∧ 1 + 3 = 4 := ⟨by decide +kernel, rfl⟩
theorem dOF_put_4 : decode b_OF_put 4 = .ok (.iload_n 1, 1) ∧ 4 + 1 = 5 := ⟨by decide +kernel, rfl⟩
theorem dOF_put_5 : decode b_OF_put 5 = .ok (.iload_n 2, 1) ∧ 5 + 1 = 6 := ⟨by decide +kernel, rfl⟩
theorem dOF_put_6 : decode b_OF_put 6 = .ok (.lload_n 3, 1) ∧ 6 + 1 = 7 := ⟨by decide +kernel, rfl⟩
theorem dOF_put_7 : decode b_OF_put 7 = .ok (.invokevirtual 71, 3) ∧ 7 + 3 = 10 := ⟨by decide +kernel, rfl⟩
theorem dOF_put_10 : decode b_OF_put 10 = .ok (.ireturn, 1) ∧ 10 + 1 = 11 := ⟨by decide +kernel, rfl⟩
theorem dOF_bss_0 : decode b_OF_bss 0 = .ok (.iload_n 1, 1) ∧ 0 + 1 = 1 := ⟨by decide +kernel, rfl⟩
theorem dOF_bss_1 : decode b_OF_bss 1 = .ok (.ifCond .lt (10), 3) ∧ 1 + 3 = 4 ∧ ((1 : Nat) : Int) + (10) = ((11 : Nat) : Int) := ⟨by decide +kernel, rfl, by decide⟩
theorem dOF_bss_4 : decode b_OF_bss 4 = .ok (.iload_n 1, 1) ∧ 4 + 1 = 5 := ⟨by decide +kernel, rfl⟩
theorem dOF_bss_5 : decode b_OF_bss 5 = .ok (.sipush (4096), 3) ∧ 5 + 3 = 8 := ⟨by decide +kernel, rfl⟩
theorem dOF_bss_8 : decode b_OF_bss 8 = .ok (.if_icmp .le (5), 3) ∧ 8 + 3 = 11 ∧ ((8 : Nat) : Int) + (5) = ((13 : Nat) : Int) := ⟨by decide +kernel, rfl, by decide⟩
theorem dOF_bss_11 : decode b_OF_bss 11 = .ok (.iconst 0, 1) ∧ 11 + 1 = 12 := ⟨by decide +kernel, rfl⟩
theorem dOF_bss_12 : decode b_OF_bss 12 = .ok (.ireturn, 1) ∧ 12 + 1 = 13 := ⟨by decide +kernel, rfl⟩
theorem dOF_bss_13 : decode b_OF_bss 13 = .ok (.aload_n 0, 1) ∧ 13 + 1 = 14 := ⟨by decide +kernel, rfl⟩
theorem dOF_bss_14 : decode b_OF_bss 14 = .ok (.getfield 12, 3) ∧ 14 + 3 = 17 := ⟨by decide +kernel, rfl⟩
theorem dOF_bss_17 : decode b_OF_bss 17 = .ok (.getfield 75, 3) ∧ 17 + 3 = 20 := ⟨by decide +kernel, rfl⟩
theorem dOF_bss_20 : decode b_OF_bss 20 = .ok (.iconst 3, 1) ∧ 20 + 1 = 21 := ⟨by decide +kernel, rfl⟩
theorem dOF_bss_21 : decode b_OF_bss 21 = .ok (.iload_n 1, 1) ∧ 21 + 1 = 22 := ⟨by decide +kernel, rfl⟩
theorem dOF_bss_22 : decode b_OF_bss 22 = .ok (.iastore, 1) ∧ 22 + 1 = 23 := ⟨by decide +kernel, rfl⟩
theorem dOF_bss_23 : decode b_OF_bss 23 = .ok (.iconst 1, 1) ∧ 23 + 1 = 24 := ⟨by decide +kernel, rfl⟩
theorem dOF_bss_24 : decode b_OF_bss 24 = .ok (.ireturn, 1) ∧ 24 + 1 = 25 := ⟨by decide +kernel, rfl⟩
theorem dOF_align_0 : decode b_OF_align 0 = .ok (.iload_n 1, 1) ∧ 0 + 1 = 1 := ⟨by decide +kernel, rfl⟩
theorem dOF_align_1 : decode b_OF_align 1 = .ok (.ifCond .lt (18), 3) ∧ 1 + 3 = 4 ∧ ((1 : Nat) : Int) + (18) = ((19 : Nat) : Int) := ⟨by decide +kernel, rfl, by decide⟩
theorem dOF_align_4 : decode b_OF_align 4 = .ok (.iload_n 1, 1) ∧ 4 + 1 = 5 := ⟨by decide +kernel, rfl⟩
theorem dOF_align_5 : decode b_OF_align 5 = .ok (.iconst 3, 1) ∧ 5 + 1 = 6 := ⟨by decide +kernel, rfl⟩
theorem dOF_align_6 : decode b_OF_align 6 = .ok (.if_icmp .gt (13), 3) ∧ 6 + 3 = 9 ∧ ((6 : Nat) : Int) + (13) = ((19 : Nat) : Int) := ⟨by decide +kernel, rfl, by decide⟩
theorem dOF_align_9 : decode b_OF_align 9 = .ok (.iload_n 2, 1) ∧ 9 + 1 = 10 := ⟨by decide +kernel, rfl⟩
theorem dOF_align_10 : decode b_OF_align 10 = .ok (.ifCond .lt (9), 3) ∧ 10 + 3 = 13 ∧ ((10 : Nat) : Int) + (9) = ((19 : Nat) : Int) := ⟨by decide +kernel, rfl, by decide⟩
theorem dOF_align_13 : decode b_OF_align 13 = .ok (.iload_n 2, 1) ∧ 13 + 1 = 14 := ⟨by decide +kernel, rfl⟩
theorem dOF_align_14 : decode b_OF_align 14 = .ok (.bipush (6), 2) ∧ 14 + 2 = 16 := ⟨by decide +kernel, rfl⟩
theorem dOF_align_16 : decode b_OF_align 16 = .ok (.if_icmp .le (5), 3) ∧ 16 + 3 = 19 ∧ ((16 : Nat) : Int) + (5) = ((21 : Nat) : Int) := ⟨by decide +kernel, rfl, by decide⟩
theorem dOF_align_19 : decode b_OF_align 19 = .ok (.iconst 0, 1) ∧ 19 + 1 = 20 := ⟨by decide +kernel, rfl⟩
theorem dOF_align_20 : decode b_OF_align 20 = .ok (.ireturn, 1) ∧ 20 + 1 = 21 := ⟨by decide +kernel, rfl⟩
theorem dOF_align_21 : decode b_OF_align 21 = .ok (.aload_n 0, 1) ∧ 21 + 1 = 22 := ⟨by decide +kernel, rfl⟩
theorem dOF_align_22 : decode b_OF_align 22 = .ok (.getfield 12, 3) ∧ 22 + 3 = 25 := ⟨by decide +kernel, rfl⟩
theorem dOF_align_25 : decode b_OF_align 25 = .ok (.getfield 79, 3) ∧ 25 + 3 = 28 := ⟨by decide +kernel, rfl⟩
theorem dOF_align_28 : decode b_OF_align 28 = .ok (.iload_n 1, 1) ∧ 28 + 1 = 29 := ⟨by decide +kernel, rfl⟩
theorem dOF_align_29 : decode b_OF_align 29 = .ok (.iconst 1, 1) ∧ 29 + 1 = 30 := ⟨by decide +kernel, rfl⟩
theorem dOF_align_30 : decode b_OF_align 30 = .ok (.iload_n 2, 1) ∧ 30 + 1 = 31 := ⟨by decide +kernel, rfl⟩
theorem dOF_align_31 : decode b_OF_align 31 = .ok (.ishl, 1) ∧ 31 + 1 = 32 := ⟨by decide +kernel, rfl⟩
theorem dOF_align_32 : decode b_OF_align 32 = .ok (.iastore, 1) ∧ 32 + 1 = 33 := ⟨by decide +kernel, rfl⟩
theorem dOF_align_33 : decode b_OF_align 33 = .ok (.iconst 1, 1) ∧ 33 + 1 = 34 := ⟨by decide +kernel, rfl⟩
theorem dOF_align_34 : decode b_OF_align 34 = .ok (.ireturn, 1) ∧ 34 + 1 = 35 := ⟨by decide +kernel, rfl⟩
theorem dCT_startOf_0 : decode b_CT_startOf 0 = .ok (.iload_n 1, 1) ∧ 0 + 1 = 1 := ⟨by decide +kernel, rfl⟩
theorem dCT_startOf_1 : decode b_CT_startOf 1 = .ok (.ifCond .lt (11), 3) ∧ 1 + 3 = 4 ∧ ((1 : Nat) : Int) + (11) = ((12 : Nat) : Int) := ⟨by decide +kernel, rfl, by decide⟩
theorem dCT_startOf_4 : decode b_CT_startOf 4 = .ok (.iload_n 1, 1) ∧ 4 + 1 = 5 := ⟨by decide +kernel, rfl⟩
theorem dCT_startOf_5 : decode b_CT_startOf 5 = .ok (.aload_n 0, 1) ∧ 5 + 1 = 6 := ⟨by decide +kernel, rfl⟩
theorem dCT_startOf_6 : decode b_CT_startOf 6 = .ok (.getfield 40, 3) ∧ 6 + 3 = 9 := ⟨by decide +kernel, rfl⟩
theorem dCT_startOf_9 : decode b_CT_startOf 9 = .ok (.if_icmp .lt (7), 3) ∧ 9 + 3 = 12 ∧ ((9 : Nat) : Int) + (7) = ((16 : Nat) : Int) := ⟨by decide +kernel, rfl, by decide⟩
theorem dCT_startOf_12 : decode b_CT_startOf 12 = .ok (.iconst (-1), 1) ∧ 12 + 1 = 13 := ⟨by decide +kernel, rfl⟩
theorem dCT_startOf_13 : decode b_CT_startOf 13 = .ok (.goto (9), 3) ∧ 13 + 3 = 16 ∧ ((13 : Nat) : Int) + (9) = ((22 : Nat) : Int) := ⟨by decide +kernel, rfl, by decide⟩
theorem dCT_startOf_16 : decode b_CT_startOf 16 = .ok (.aload_n 0, 1) ∧ 16 + 1 = 17 := ⟨by decide +kernel, rfl⟩
theorem dCT_startOf_17 : decode b_CT_startOf 17 = .ok (.getfield 22, 3) ∧ 17 + 3 = 20 := ⟨by decide +kernel, rfl⟩
theorem dCT_startOf_20 : decode b_CT_startOf 20 = .ok (.iload_n 1, 1) ∧ 20 + 1 = 21 := ⟨by decide +kernel, rfl⟩
theorem dCT_startOf_21 : decode b_CT_startOf 21 = .ok (.iaload, 1) ∧ 21 + 1 = 22 := ⟨by decide +kernel, rfl⟩
theorem dCT_startOf_22 : decode b_CT_startOf 22 = .ok (.ireturn, 1) ∧ 22 + 1 = 23 := ⟨by decide +kernel, rfl⟩
theorem dCT_latestStart_0 : decode b_CT_latestStart 0 = .ok (.aload_n 0, 1) ∧ 0 + 1 = 1 := ⟨by decide +kernel, rfl⟩
theorem dCT_latestStart_1 : decode b_CT_latestStart 1 = .ok (.aload_n 0, 1) ∧ 1 + 1 = 2 := ⟨by decide +kernel, rfl⟩
theorem dCT_latestStart_2 : decode b_CT_latestStart 2 = .ok (.getfield 40, 3) ∧ 2 + 3 = 5 := ⟨by decide +kernel, rfl⟩
theorem dCT_latestStart_5 : decode b_CT_latestStart 5 = .ok (.iconst 1, 1) ∧ 5 + 1 = 6 := ⟨by decide +kernel, rfl⟩
theorem dCT_latestStart_6 : decode b_CT_latestStart 6 = .ok (.isub, 1) ∧ 6 + 1 = 7 := ⟨by decide +kernel, rfl⟩
theorem dCT_latestStart_7 : decode b_CT_latestStart 7 = .ok (.invokevirtual 56, 3) ∧ 7 + 3 = 10 := ⟨by decide +kernel, rfl⟩
theorem dCT_latestStart_10 : decode b_CT_latestStart 10 = .ok (.ireturn, 1) ∧ 10 + 1 = 11 := ⟨by decide +kernel, rfl⟩
theorem dCT_addStart_0 : decode b_CT_addStart 0 = .ok (.aload_n 0, 1) ∧ 0 + 1 = 1 := ⟨by decide +kernel, rfl⟩
theorem dCT_addStart_1 : decode b_CT_addStart 1 = .ok (.getfield 40, 3) ∧ 1 + 3 = 4 := ⟨by decide +kernel, rfl⟩
theorem dCT_addStart_4 : decode b_CT_addStart 4 = .ok (.ifCond .lt (13), 3) ∧ 4 + 3 = 7 ∧ ((4 : Nat) : Int) + (13) = ((17 : Nat) : Int) := ⟨by decide +kernel, rfl, by decide⟩
theorem dCT_addStart_7 : decode b_CT_addStart 7 = .ok (.aload_n 0, 1) ∧ 7 + 1 = 8 := ⟨by decide +kernel, rfl⟩
theorem dCT_addStart_8 : decode b_CT_addStart 8 = .ok (.getfield 40, 3) ∧ 8 + 3 = 11 := ⟨by decide +kernel, rfl⟩
theorem dCT_addStart_11 : decode b_CT_addStart 11 = .ok (.sipush (1024), 3) ∧ 11 + 3 = 14 := ⟨by decide +kernel, rfl⟩
theorem dCT_addStart_14 : decode b_CT_addStart 14 = .ok (.if_icmp .lt (5), 3) ∧ 14 + 3 = 17 ∧ ((14 : Nat) : Int) + (5) = ((19 : Nat) : Int) := ⟨by decide +kernel, rfl, by decide⟩
theorem dCT_addStart_17 : decode b_CT_addStart 17 = .ok (.iconst 0, 1) ∧ 17 + 1 = 18 := ⟨by decide +kernel, rfl⟩
theorem dCT_addStart_18 : decode b_CT_addStart 18 = .ok (.ireturn, 1) ∧ 18 + 1 = 19 := ⟨by decide +kernel, rfl⟩
theorem dCT_addStart_19 : decode b_CT_addStart 19 = .ok (.aload_n 0, 1) ∧ 19 + 1 = 20 := ⟨by decide +kernel, rfl⟩
theorem dCT_addStart_20 : decode b_CT_addStart 20 = .ok (.getfield 22, 3) ∧ 20 + 3 = 23 := ⟨by decide +kernel, rfl⟩
theorem dCT_addStart_23 : decode b_CT_addStart 23 = .ok (.aload_n 0, 1) ∧ 23 + 1 = 24 := ⟨by decide +kernel, rfl⟩
theorem dCT_addStart_24 : decode b_CT_addStart 24 = .ok (.getfield 40, 3) ∧ 24 + 3 = 27 := ⟨by decide +kernel, rfl⟩
theorem dCT_addStart_27 : decode b_CT_addStart 27 = .ok (.iload_n 1, 1) ∧ 27 + 1 = 28 := ⟨by decide +kernel, rfl⟩
theorem dCT_addStart_28 : decode b_CT_addStart 28 = .ok (.iastore, 1) ∧ 28 + 1 = 29 := ⟨by decide +kernel, rfl⟩
theorem dCT_addStart_29 : decode b_CT_addStart 29 = .ok (.aload_n 0, 1) ∧ 29 + 1 = 30 := ⟨by decide +kernel, rfl⟩
theorem dCT_addStart_30 : decode b_CT_addStart 30 = .ok (.dup, 1) ∧ 30 + 1 = 31 := ⟨by decide +kernel, rfl⟩
theorem dCT_addStart_31 : decode b_CT_addStart 31 = .ok (.getfield 40, 3) ∧ 31 + 3 = 34 := ⟨by decide +kernel, rfl⟩
theorem dCT_addStart_34 : decode b_CT_addStart 34 = .ok (.iconst 1, 1) ∧ 34 + 1 = 35 := ⟨by decide +kernel, rfl⟩
theorem dCT_addStart_35 : decode b_CT_addStart 35 = .ok (.iadd, 1) ∧ 35 + 1 = 36 := ⟨by decide +kernel, rfl⟩
theorem dCT_addStart_36 : decode b_CT_addStart 36 = .ok (.putfield 40, 3) ∧ 36 + 3 = 39 := ⟨by decide +kernel, rfl⟩
theorem dCT_addStart_39 : decode b_CT_addStart 39 = .ok (.iconst 1, 1) ∧ 39 + 1 = 40 := ⟨by decide +kernel, rfl⟩
theorem dCT_addStart_40 : decode b_CT_addStart 40 = .ok (.ireturn, 1) ∧ 40 + 1 = 41 := ⟨by decide +kernel, rfl⟩
theorem dOF_start_0 : decode b_OF_start 0 = .ok (.iload_n 1, 1) ∧ 0 + 1 = 1 := ⟨by decide +kernel, rfl⟩
theorem dOF_start_1 : decode b_OF_start 1 = .ok (.ifCond .lt (16), 3) ∧ 1 + 3 = 4 ∧ ((1 : Nat) : Int) + (16) = ((17 : Nat) : Int) := ⟨by decide +kernel, rfl, by decide⟩
theorem dOF_start_4 : decode b_OF_start 4 = .ok (.iload_n 1, 1) ∧ 4 + 1 = 5 := ⟨by decide +kernel, rfl⟩
theorem dOF_start_5 : decode b_OF_start 5 = .ok (.sipush (2048), 3) ∧ 5 + 3 = 8 := ⟨by decide +kernel, rfl⟩
theorem dOF_start_8 : decode b_OF_start 8 = .ok (.if_icmp .ge (9), 3) ∧ 8 + 3 = 11 ∧ ((8 : Nat) : Int) + (9) = ((17 : Nat) : Int) := ⟨by decide +kernel, rfl, by decide⟩
theorem dOF_start_11 : decode b_OF_start 11 = .ok (.iload_n 1, 1) ∧ 11 + 1 = 12 := ⟨by decide +kernel, rfl⟩
theorem dOF_start_12 : decode b_OF_start 12 = .ok (.iconst 1, 1) ∧ 12 + 1 = 13 := ⟨by decide +kernel, rfl⟩
theorem dOF_start_13 : decode b_OF_start 13 = .ok (.iand, 1) ∧ 13 + 1 = 14 := ⟨by decide +kernel, rfl⟩
theorem dOF_start_14 : decode b_OF_start 14 = .ok (.ifCond .eq (5), 3) ∧ 14 + 3 = 17 ∧ ((14 : Nat) : Int) + (5) = ((19 : Nat) : Int) := ⟨by decide +kernel, rfl, by decide⟩
theorem dOF_start_17 : decode b_OF_start 17 = .ok (.iconst 0, 1) ∧ 17 + 1 = 18 := ⟨by decide +kernel, rfl⟩
theorem dOF_start_18 : decode b_OF_start 18 = .ok (.ireturn, 1) ∧ 18 + 1 = 19 := ⟨by decide +kernel, rfl⟩
theorem dOF_start_19 : decode b_OF_start 19 = .ok (.iload_n 1, 1) ∧ 19 + 1 = 20 := ⟨by decide +kernel, rfl⟩
theorem dOF_start_20 : decode b_OF_start 20 = .ok (.aload_n 0, 1) ∧ 20 + 1 = 21 := ⟨by decide +kernel, rfl⟩
theorem dOF_start_21 : decode b_OF_start 21 = .ok (.getfield 12, 3) ∧ 21 + 3 = 24 := ⟨by decide +kernel, rfl⟩
theorem dOF_start_24 : decode b_OF_start 24 = .ok (.invokevirtual 82, 3) ∧ 24 + 3 = 27 := ⟨by decide +kernel, rfl⟩
theorem dOF_start_27 : decode b_OF_start 27 = .ok (.if_icmp .le (18), 3) ∧ 27 + 3 = 30 ∧ ((27 : Nat) : Int) + (18) = ((45 : Nat) : Int) := ⟨by decide +kernel, rfl, by decide⟩
theorem dOF_start_30 : decode b_OF_start 30 = .ok (.aload_n 0, 1) ∧ 30 + 1 = 31 := ⟨by decide +kernel, rfl⟩
theorem dOF_start_31 : decode b_OF_start 31 = .ok (.getfield 12, 3) ∧ 31 + 3 = 34 := ⟨by decide +kernel, rfl⟩
theorem dOF_start_34 : decode b_OF_start 34 = .ok (.iload_n 1, 1) ∧ 34 + 1 = 35 := ⟨by decide +kernel, rfl⟩
theorem dOF_start_35 : decode b_OF_start 35 = .ok (.invokevirtual 86, 3) ∧ 35 + 3 = 38 := ⟨by decide +kernel, rfl⟩
theorem dOF_start_38 : decode b_OF_start 38 = .ok (.ifCond .eq (7), 3) ∧ 38 + 3 = 41 ∧ ((38 : Nat) : Int) + (7) = ((45 : Nat) : Int) := ⟨by decide +kernel, rfl, by decide⟩
theorem dOF_start_41 : decode b_OF_start 41 = .ok (.iconst 1, 1) ∧ 41 + 1 = 42 := ⟨by decide +kernel, rfl⟩
theorem dOF_start_42 : decode b_OF_start 42 = .ok (.goto (4), 3) ∧ 42 + 3 = 45 ∧ ((42 : Nat) : Int) + (4) = ((46 : Nat) : Int) := ⟨by decide +kernel, rfl, by decide⟩
theorem dOF_start_45 : decode b_OF_start 45 = .ok (.iconst 0, 1) ∧ 45 + 1 = 46 := ⟨by decide +kernel, rfl⟩
theorem dOF_start_46 : decode b_OF_start 46 = .ok (.ireturn, 1) ∧ 46 + 1 = 47 := ⟨by decide +kernel, rfl⟩
theorem dOF_isNameCharacter_0 : decode b_OF_isNameCharacter 0 = .ok (.iload_n 0, 1) ∧ 0 + 1 = 1 := ⟨by decide +kernel, rfl⟩
theorem dOF_isNameCharacter_1 : decode b_OF_isNameCharacter 1 = .ok (.bipush (33), 2) ∧ 1 + 2 = 3 := ⟨by decide +kernel, rfl⟩
theorem dOF_isNameCharacter_3 : decode b_OF_isNameCharacter 3 = .ok (.if_icmp .lt (13), 3) ∧ 3 + 3 = 6 ∧ ((3 : Nat) : Int) + (13) = ((16 : Nat) : Int) := ⟨by decide +kernel, rfl, by decide⟩
theorem dOF_isNameCharacter_6 : decode b_OF_isNameCharacter 6 = .ok (.iload_n 0, 1) ∧ 6 + 1 = 7 := ⟨by decide +kernel, rfl⟩
theorem dOF_isNameCharacter_7 : decode b_OF_isNameCharacter 7 = .ok (.bipush (126), 2) ∧ 7 + 2 = 9 := ⟨by decide +kernel, rfl⟩
theorem dOF_isNameCharacter_9 : decode b_OF_isNameCharacter 9 = .ok (.if_icmp .gt (7), 3) ∧ 9 + 3 = 12 ∧ ((9 : Nat) : Int) + (7) = ((16 : Nat) : Int) := ⟨by decide +kernel, rfl, by decide⟩
theorem dOF_isNameCharacter_12 : decode b_OF_isNameCharacter 12 = .ok (.iconst 1, 1) ∧ 12 + 1 = 13 := ⟨by decide +kernel, rfl⟩
theorem dOF_isNameCharacter_13 : decode b_OF_isNameCharacter 13 = .ok (.goto (4), 3) ∧ 13 + 3 = 16 ∧ ((13 : Nat) : Int) + (4) = ((17 : Nat) : Int) := ⟨by decide +kernel, rfl, by decide⟩
theorem dOF_isNameCharacter_16 : decode b_OF_isNameCharacter 16 = .ok (.iconst 0, 1) ∧ 16 + 1 = 17 := ⟨by decide +kernel, rfl⟩
theorem dOF_isNameCharacter_17 : decode b_OF_isNameCharacter 17 = .ok (.ireturn, 1) ∧ 17 + 1 = 18 := ⟨by decide +kernel, rfl⟩
theorem dOF_letter_0 : decode b_OF_letter 0 = .ok (.iload_n 1, 1) ∧ 0 + 1 = 1 := ⟨by decide +kernel, rfl⟩
theorem dOF_letter_1 : decode b_OF_letter 1 = .ok (.invokestatic 90, 3) ∧ 1 + 3 = 4 := ⟨by decide +kernel, rfl⟩
theorem dOF_letter_4 : decode b_OF_letter 4 = .ok (.ifCond .eq (19), 3) ∧ 4 + 3 = 7 ∧ ((4 : Nat) : Int) + (19) = ((23 : Nat) : Int) := ⟨by decide +kernel, rfl, by decide⟩
theorem dOF_letter_7 : decode b_OF_letter 7 = .ok (.aload_n 0, 1) ∧ 7 + 1 = 8 := ⟨by decide +kernel, rfl⟩
theorem dOF_letter_8 : decode b_OF_letter 8 = .ok (.getfield 67, 3) ∧ 8 + 3 = 11 := ⟨by decide +kernel, rfl⟩
theorem dOF_letter_11 : decode b_OF_letter 11 = .ok (.ifCond .lt (12), 3) ∧ 11 + 3 = 14 ∧ ((11 : Nat) : Int) + (12) = ((23 : Nat) : Int) := ⟨by decide +kernel, rfl, by decide⟩
theorem dOF_letter_14 : decode b_OF_letter 14 = .ok (.aload_n 0, 1) ∧ 14 + 1 = 15 := ⟨by decide +kernel, rfl⟩
theorem dOF_letter_15 : decode b_OF_letter 15 = .ok (.getfield 67, 3) ∧ 15 + 3 = 18 := ⟨by decide +kernel, rfl⟩
theorem dOF_letter_18 : decode b_OF_letter 18 = .ok (.bipush (16), 2) ∧ 18 + 2 = 20 := ⟨by decide +kernel, rfl⟩
theorem dOF_letter_20 : decode b_OF_letter 20 = .ok (.if_icmp .lt (5), 3) ∧ 20 + 3 = 23 ∧ ((20 : Nat) : Int) + (5) = ((25 : Nat) : Int) := ⟨by decide +kernel, rfl, by decide⟩
theorem dOF_letter_23 : decode b_OF_letter 23 = .ok (.iconst 0, 1) ∧ 23 + 1 = 24 := ⟨by decide +kernel, rfl⟩
theorem dOF_letter_24 : decode b_OF_letter 24 = .ok (.ireturn, 1) ∧ 24 + 1 = 25 := ⟨by decide +kernel, rfl⟩
theorem dOF_letter_25 : decode b_OF_letter 25 = .ok (.aload_n 0, 1) ∧ 25 + 1 = 26 := ⟨by decide +kernel, rfl⟩
theorem dOF_letter_26 : decode b_OF_letter 26 = .ok (.getfield 60, 3) ∧ 26 + 3 = 29 := ⟨by decide +kernel, rfl⟩
theorem dOF_letter_29 : decode b_OF_letter 29 = .ok (.aload_n 0, 1) ∧ 29 + 1 = 30 := ⟨by decide +kernel, rfl⟩
theorem dOF_letter_30 : decode b_OF_letter 30 = .ok (.getfield 67, 3) ∧ 30 + 3 = 33 := ⟨by decide +kernel, rfl⟩
theorem dOF_letter_33 : decode b_OF_letter 33 = .ok (.iload_n 1, 1) ∧ 33 + 1 = 34 := ⟨by decide +kernel, rfl⟩
theorem dOF_letter_34 : decode b_OF_letter 34 = .ok (.i2b, 1) ∧ 34 + 1 = 35 := ⟨by decide +kernel, rfl⟩
theorem dOF_letter_35 : decode b_OF_letter 35 = .ok (.bastore, 1) ∧ 35 + 1 = 36 := ⟨by decide +kernel, rfl⟩
theorem dOF_letter_36 : decode b_OF_letter 36 = .ok (.aload_n 0, 1) ∧ 36 + 1 = 37 := ⟨by decide +kernel, rfl⟩
theorem dOF_letter_37 : decode b_OF_letter 37 = .ok (.dup, 1) ∧ 37 + 1 = 38 := ⟨by decide +kernel, rfl⟩
theorem dOF_letter_38 : decode b_OF_letter 38 = .ok (.getfield 67, 3) ∧ 38 + 3 = 41 := ⟨by decide +kernel, rfl⟩
theorem dOF_letter_41 : decode b_OF_letter 41 = .ok (.iconst 1, 1) ∧ 41 + 1 = 42 := ⟨by decide +kernel, rfl⟩
theorem dOF_letter_42 : decode b_OF_letter 42 = .ok (.iadd, 1) ∧ 42 + 1 = 43 := ⟨by decide +kernel, rfl⟩
theorem dOF_letter_43 : decode b_OF_letter 43 = .ok (.putfield 67, 3) ∧ 43 + 3 = 46 := ⟨by decide +kernel, rfl⟩
theorem dOF_letter_46 : decode b_OF_letter 46 = .ok (.iconst 1, 1) ∧ 46 + 1 = 47 := ⟨by decide +kernel, rfl⟩
theorem dOF_letter_47 : decode b_OF_letter 47 = .ok (.ireturn, 1) ∧ 47 + 1 = 48 := ⟨by decide +kernel, rfl⟩
theorem dOF_isBindOrType_0 : decode b_OF_isBindOrType 0 = .ok (.iload_n 0, 1) ∧ 0 + 1 = 1 := ⟨by decide +kernel, rfl⟩
theorem dOF_isBindOrType_1 : decode b_OF_isBindOrType 1 = .ok (.ifCond .lt (12), 3) ∧ 1 + 3 = 4 ∧ ((1 : Nat) : Int) + (12) = ((13 : Nat) : Int) := ⟨by decide +kernel, rfl, by decide⟩
theorem dOF_isBindOrType_4 : decode b_OF_isBindOrType 4 = .ok (.iload_n 0, 1) ∧ 4 + 1 = 5 := ⟨by decide +kernel, rfl⟩
theorem dOF_isBindOrType_5 : decode b_OF_isBindOrType 5 = .ok (.iconst 2, 1) ∧ 5 + 1 = 6 := ⟨by decide +kernel, rfl⟩
theorem dOF_isBindOrType_6 : decode b_OF_isBindOrType 6 = .ok (.if_icmp .gt (7), 3) ∧ 6 + 3 = 9 ∧ ((6 : Nat) : Int) + (7) = ((13 : Nat) : Int) := ⟨by decide +kernel, rfl, by decide⟩
theorem dOF_isBindOrType_9 : decode b_OF_isBindOrType 9 = .ok (.iconst 1, 1) ∧ 9 + 1 = 10 := ⟨by decide +kernel, rfl⟩
theorem dOF_isBindOrType_10 : decode b_OF_isBindOrType 10 = .ok (.goto (4), 3) ∧ 10 + 3 = 13 ∧ ((10 : Nat) : Int) + (4) = ((14 : Nat) : Int) := ⟨by decide +kernel, rfl, by decide⟩
theorem dOF_isBindOrType_13 : decode b_OF_isBindOrType 13 = .ok (.iconst 0, 1) ∧ 13 + 1 = 14 := ⟨by decide +kernel, rfl⟩
theorem dOF_isBindOrType_14 : decode b_OF_isBindOrType 14 = .ok (.ireturn, 1) ∧ 14 + 1 = 15 := ⟨by decide +kernel, rfl⟩
theorem dOF_firstFlaw_0 : decode b_OF_firstFlaw 0 = .ok (.iload_n 0, 1) ∧ 0 + 1 = 1 := ⟨by decide +kernel, rfl⟩
theorem dOF_firstFlaw_1 : decode b_OF_firstFlaw 1 = .ok (.ifCond .ne (5), 3) ∧ 1 + 3 = 4 ∧ ((1 : Nat) : Int) + (5) = ((6 : Nat) : Int) := ⟨by decide +kernel, rfl, by decide⟩
theorem dOF_firstFlaw_4 : decode b_OF_firstFlaw 4 = .ok (.iconst 1, 1) ∧ 4 + 1 = 5 := ⟨by decide +kernel, rfl⟩
theorem dOF_firstFlaw_5 : decode b_OF_firstFlaw 5 = .ok (.ireturn, 1) ∧ 5 + 1 = 6 := ⟨by decide +kernel, rfl⟩
theorem dOF_firstFlaw_6 : decode b_OF_firstFlaw 6 = .ok (.iload_n 1, 1) ∧ 6 + 1 = 7 := ⟨by decide +kernel, rfl⟩
theorem dOF_firstFlaw_7 : decode b_OF_firstFlaw 7 = .ok (.ifCond .ne (5), 3) ∧ 7 + 3 = 10 ∧ ((7 : Nat) : Int) + (5) = ((12 : Nat) : Int) := ⟨by decide +kernel, rfl, by decide⟩
theorem dOF_firstFlaw_10 : decode b_OF_firstFlaw 10 = .ok (.iconst 2, 1) ∧ 10 + 1 = 11 := ⟨by decide +kernel, rfl⟩
theorem dOF_firstFlaw_11 : decode b_OF_firstFlaw 11 = .ok (.ireturn, 1) ∧ 11 + 1 = 12 := ⟨by decide +kernel, rfl⟩
theorem dOF_firstFlaw_12 : decode b_OF_firstFlaw 12 = .ok (.iload_n 2, 1) ∧ 12 + 1 = 13 := ⟨by decide +kernel, rfl⟩
theorem dOF_firstFlaw_13 : decode b_OF_firstFlaw 13 = .ok (.ifCond .eq (7), 3) ∧ 13 + 3 = 16 ∧ ((13 : Nat) : Int) + (7) = ((20 : Nat) : Int) := ⟨by decide +kernel, rfl, by decide⟩
theorem dOF_firstFlaw_16 : decode b_OF_firstFlaw 16 = .ok (.iconst (-1), 1) ∧ 16 + 1 = 17 := ⟨by decide +kernel, rfl⟩
theorem dOF_firstFlaw_17 : decode b_OF_firstFlaw 17 = .ok (.goto (4), 3) ∧ 17 + 3 = 20 ∧ ((17 : Nat) : Int) + (4) = ((21 : Nat) : Int) := ⟨by decide +kernel, rfl, by decide⟩
theorem dOF_firstFlaw_20 : decode b_OF_firstFlaw 20 = .ok (.iconst 3, 1) ∧ 20 + 1 = 21 := ⟨by decide +kernel, rfl⟩
theorem dOF_firstFlaw_21 : decode b_OF_firstFlaw 21 = .ok (.ireturn, 1) ∧ 21 + 1 = 22 := ⟨by decide +kernel, rfl⟩
theorem dOF_isAlignment_0 : decode b_OF_isAlignment 0 = .ok (.lload_n 0, 1) ∧ 0 + 1 = 1 := ⟨by decide +kernel, rfl⟩
theorem dOF_isAlignment_1 : decode b_OF_isAlignment 1 = .ok (.lconst 1, 1) ∧ 1 + 1 = 2 := ⟨by decide +kernel, rfl⟩
theorem dOF_isAlignment_2 : decode b_OF_isAlignment 2 = .ok (.lcmp, 1) ∧ 2 + 1 = 3 := ⟨by decide +kernel, rfl⟩
theorem dOF_isAlignment_3 : decode b_OF_isAlignment 3 = .ok (.ifCond .lt (25), 3) ∧ 3 + 3 = 6 ∧ ((3 : Nat) : Int) + (25) = ((28 : Nat) : Int) := ⟨by decide +kernel, rfl, by decide⟩
theorem dOF_isAlignment_6 : decode b_OF_isAlignment 6 = .ok (.lload_n 0, 1) ∧ 6 + 1 = 7 := ⟨by decide +kernel, rfl⟩
theorem dOF_isAlignment_7 : decode b_OF_isAlignment 7 = .ok (.ldc2_w 190, 3) ∧ 7 + 3 = 10 := ⟨by decide +kernel, rfl⟩
theorem dOF_isAlignment_10 : decode b_OF_isAlignment 10 = .ok (.lcmp, 1) ∧ 10 + 1 = 11 := ⟨by decide +kernel, rfl⟩
theorem dOF_isAlignment_11 : decode b_OF_isAlignment 11 = .ok (.ifCond .gt (17), 3) ∧ 11 + 3 = 14 ∧ ((11 : Nat) : Int) + (17) = ((28 : Nat) : Int) := ⟨by decide +kernel, rfl, by decide⟩
theorem dOF_isAlignment_14 : decode b_OF_isAlignment 14 = .ok (.lload_n 0, 1) ∧ 14 + 1 = 15 := ⟨by decide +kernel, rfl⟩
theorem dOF_isAlignment_15 : decode b_OF_isAlignment 15 = .ok (.lload_n 0, 1) ∧ 15 + 1 = 16 := ⟨by decide +kernel, rfl⟩
theorem dOF_isAlignment_16 : decode b_OF_isAlignment 16 = .ok (.lconst 1, 1) ∧ 16 + 1 = 17 := ⟨by decide +kernel, rfl⟩
theorem dOF_isAlignment_17 : decode b_OF_isAlignment 17 = .ok (.lsub, 1) ∧ 17 + 1 = 18 := ⟨by decide +kernel, rfl⟩
theorem dOF_isAlignment_18 : decode b_OF_isAlignment 18 = .ok (.land, 1) ∧ 18 + 1 = 19 := ⟨by decide +kernel, rfl⟩
theorem dOF_isAlignment_19 : decode b_OF_isAlignment 19 = .ok (.lconst 0, 1) ∧ 19 + 1 = 20 := ⟨by decide +kernel, rfl⟩
theorem dOF_isAlignment_20 : decode b_OF_isAlignment 20 = .ok (.lcmp, 1) ∧ 20 + 1 = 21 := ⟨by decide +kernel, rfl⟩
theorem dOF_isAlignment_21 : decode b_OF_isAlignment 21 = .ok (.ifCond .ne (7), 3) ∧ 21 + 3 = 24 ∧ ((21 : Nat) : Int) + (7) = ((28 : Nat) : Int) := ⟨by decide +kernel, rfl, by decide⟩
theorem dOF_isAlignment_24 : decode b_OF_isAlignment 24 = .ok (.iconst 1, 1) ∧ 24 + 1 = 25 := ⟨by decide +kernel, rfl⟩
theorem dOF_isAlignment_25 : decode b_OF_isAlignment 25 = .ok (.goto (4), 3) ∧ 25 + 3 = 28 ∧ ((25 : Nat) : Int) + (4) = ((29 : Nat) : Int) := ⟨by decide +kernel, rfl, by decide⟩
theorem dOF_isAlignment_28 : decode b_OF_isAlignment 28 = .ok (.iconst 0, 1) ∧ 28 + 1 = 29 := ⟨by decide +kernel, rfl⟩
theorem dOF_isAlignment_29 : decode b_OF_isAlignment 29 = .ok (.ireturn, 1) ∧ 29 + 1 = 30 := ⟨by decide +kernel, rfl⟩
theorem dOF_flawOf_0 : decode b_OF_flawOf 0 = .ok (.iload_n 0, 1) ∧ 0 + 1 = 1 := ⟨by decide +kernel, rfl⟩
theorem dOF_flawOf_1 : decode b_OF_flawOf 1 = .ok (.lookupswitch (117) #[(-1, 35), (4, 66), (5, 81)], 35) ∧ True := ⟨by decide +kernel, trivial⟩
theorem dOF_flawOf_36 : decode b_OF_flawOf 36 = .ok (.iload_n 1, 1) ∧ 36 + 1 = 37 := ⟨by decide +kernel, rfl⟩
theorem dOF_flawOf_37 : decode b_OF_flawOf 37 = .ok (.ifCond .ne (7), 3) ∧ 37 + 3 = 40 ∧ ((37 : Nat) : Int) + (7) = ((44 : Nat) : Int) := ⟨by decide +kernel, rfl, by decide⟩
theorem dOF_flawOf_40 : decode b_OF_flawOf 40 = .ok (.iconst 1, 1) ∧ 40 + 1 = 41 := ⟨by decide +kernel, rfl⟩
theorem dOF_flawOf_41 : decode b_OF_flawOf 41 = .ok (.goto (4), 3) ∧ 41 + 3 = 44 ∧ ((41 : Nat) : Int) + (4) = ((45 : Nat) : Int) := ⟨by decide +kernel, rfl, by decide⟩
theorem dOF_flawOf_44 : decode b_OF_flawOf 44 = .ok (.iconst 0, 1) ∧ 44 + 1 = 45 := ⟨by decide +kernel, rfl⟩
theorem dOF_flawOf_45 : decode b_OF_flawOf 45 = .ok (.iload_n 2, 1) ∧ 45 + 1 = 46 := ⟨by decide +kernel, rfl⟩
theorem dOF_flawOf_46 : decode b_OF_flawOf 46 = .ok (.ifCond .ne (7), 3) ∧ 46 + 3 = 49 ∧ ((46 : Nat) : Int) + (7) = ((53 : Nat) : Int) := ⟨by decide +kernel, rfl, by decide⟩
theorem dOF_flawOf_49 : decode b_OF_flawOf 49 = .ok (.iconst 1, 1) ∧ 49 + 1 = 50 := ⟨by decide +kernel, rfl⟩
theorem dOF_flawOf_50 : decode b_OF_flawOf 50 = .ok (.goto (4), 3) ∧ 50 + 3 = 53 ∧ ((50 : Nat) : Int) + (4) = ((54 : Nat) : Int) := ⟨by decide +kernel, rfl, by decide⟩
theorem dOF_flawOf_53 : decode b_OF_flawOf 53 = .ok (.iconst 0, 1) ∧ 53 + 1 = 54 := ⟨by decide +kernel, rfl⟩
theorem dOF_flawOf_54 : decode b_OF_flawOf 54 = .ok (.iload_n 3, 1) ∧ 54 + 1 = 55 := ⟨by decide +kernel, rfl⟩
theorem dOF_flawOf_55 : decode b_OF_flawOf 55 = .ok (.ifCond .eq (7), 3) ∧ 55 + 3 = 58 ∧ ((55 : Nat) : Int) + (7) = ((62 : Nat) : Int) := ⟨by decide +kernel, rfl, by decide⟩
theorem dOF_flawOf_58 : decode b_OF_flawOf 58 = .ok (.iconst 1, 1) ∧ 58 + 1 = 59 := ⟨by decide +kernel, rfl⟩
theorem dOF_flawOf_59 : decode b_OF_flawOf 59 = .ok (.goto (4), 3) ∧ 59 + 3 = 62 ∧ ((59 : Nat) : Int) + (4) = ((63 : Nat) : Int) := ⟨by decide +kernel, rfl, by decide⟩
theorem dOF_flawOf_62 : decode b_OF_flawOf 62 = .ok (.iconst 0, 1) ∧ 62 + 1 = 63 := ⟨by decide +kernel, rfl⟩
theorem dOF_flawOf_63 : decode b_OF_flawOf 63 = .ok (.invokestatic 192, 3) ∧ 63 + 3 = 66 := ⟨by decide +kernel, rfl⟩
theorem dOF_flawOf_66 : decode b_OF_flawOf 66 = .ok (.ireturn, 1) ∧ 66 + 1 = 67 := ⟨by decide +kernel, rfl⟩
theorem dOF_flawOf_67 : decode b_OF_flawOf 67 = .ok (.iconst 1, 1) ∧ 67 + 1 = 68 := ⟨by decide +kernel, rfl⟩
theorem dOF_flawOf_68 : decode b_OF_flawOf 68 = .ok (.iload_n 2, 1) ∧ 68 + 1 = 69 := ⟨by decide +kernel, rfl⟩
theorem dOF_flawOf_69 : decode b_OF_flawOf 69 = .ok (.ifCond .lt (7), 3) ∧ 69 + 3 = 72 ∧ ((69 : Nat) : Int) + (7) = ((76 : Nat) : Int) := ⟨by decide +kernel, rfl, by decide⟩
theorem dOF_flawOf_72 : decode b_OF_flawOf 72 = .ok (.iconst 1, 1) ∧ 72 + 1 = 73 := ⟨by decide +kernel, rfl⟩
theorem dOF_flawOf_73 : decode b_OF_flawOf 73 = .ok (.goto (4), 3) ∧ 73 + 3 = 76 ∧ ((73 : Nat) : Int) + (4) = ((77 : Nat) : Int) := ⟨by decide +kernel, rfl, by decide⟩
theorem dOF_flawOf_76 : decode b_OF_flawOf 76 = .ok (.iconst 0, 1) ∧ 76 + 1 = 77 := ⟨by decide +kernel, rfl⟩
theorem dOF_flawOf_77 : decode b_OF_flawOf 77 = .ok (.iconst 1, 1) ∧ 77 + 1 = 78 := ⟨by decide +kernel, rfl⟩
theorem dOF_flawOf_78 : decode b_OF_flawOf 78 = .ok (.invokestatic 192, 3) ∧ 78 + 3 = 81 := ⟨by decide +kernel, rfl⟩
theorem dOF_flawOf_81 : decode b_OF_flawOf 81 = .ok (.ireturn, 1) ∧ 81 + 1 = 82 := ⟨by decide +kernel, rfl⟩
theorem dOF_flawOf_82 : decode b_OF_flawOf 82 = .ok (.iload_n 1, 1) ∧ 82 + 1 = 83 := ⟨by decide +kernel, rfl⟩
theorem dOF_flawOf_83 : decode b_OF_flawOf 83 = .ok (.i2l, 1) ∧ 83 + 1 = 84 := ⟨by decide +kernel, rfl⟩
theorem dOF_flawOf_84 : decode b_OF_flawOf 84 = .ok (.invokestatic 196, 3) ∧ 84 + 3 = 87 := ⟨by decide +kernel, rfl⟩
theorem dOF_flawOf_87 : decode b_OF_flawOf 87 = .ok (.iload_n 2, 1) ∧ 87 + 1 = 88 := ⟨by decide +kernel, rfl⟩
theorem dOF_flawOf_88 : decode b_OF_flawOf 88 = .ok (.iconst 1, 1) ∧ 88 + 1 = 89 := ⟨by decide +kernel, rfl⟩
theorem dOF_flawOf_89 : decode b_OF_flawOf 89 = .ok (.if_icmp .lt (14), 3) ∧ 89 + 3 = 92 ∧ ((89 : Nat) : Int) + (14) = ((103 : Nat) : Int) := ⟨by decide +kernel, rfl, by decide⟩
theorem dOF_flawOf_92 : decode b_OF_flawOf 92 = .ok (.iload_n 2, 1) ∧ 92 + 1 = 93 := ⟨by decide +kernel, rfl⟩
theorem dOF_flawOf_93 : decode b_OF_flawOf 93 = .ok (.sipush (4096), 3) ∧ 93 + 3 = 96 := ⟨by decide +kernel, rfl⟩
theorem dOF_flawOf_96 : decode b_OF_flawOf 96 = .ok (.if_icmp .gt (7), 3) ∧ 96 + 3 = 99 ∧ ((96 : Nat) : Int) + (7) = ((103 : Nat) : Int) := ⟨by decide +kernel, rfl, by decide⟩
theorem dOF_flawOf_99 : decode b_OF_flawOf 99 = .ok (.iconst 1, 1) ∧ 99 + 1 = 100 := ⟨by decide +kernel, rfl⟩
theorem dOF_flawOf_100 : decode b_OF_flawOf 100 = .ok (.goto (4), 3) ∧ 100 + 3 = 103 ∧ ((100 : Nat) : Int) + (4) = ((104 : Nat) : Int) := ⟨by decide +kernel, rfl, by decide⟩
theorem dOF_flawOf_103 : decode b_OF_flawOf 103 = .ok (.iconst 0, 1) ∧ 103 + 1 = 104 := ⟨by decide +kernel, rfl⟩
theorem dOF_flawOf_104 : decode b_OF_flawOf 104 = .ok (.iload_n 3, 1) ∧ 104 + 1 = 105 := ⟨by decide +kernel, rfl⟩
theorem dOF_flawOf_105 : decode b_OF_flawOf 105 = .ok (.iconst 1, 1) ∧ 105 + 1 = 106 := ⟨by decide +kernel, rfl⟩
theorem dOF_flawOf_106 : decode b_OF_flawOf 106 = .ok (.if_icmp .ne (7), 3) ∧ 106 + 3 = 109 ∧ ((106 : Nat) : Int) + (7) = ((113 : Nat) : Int) := ⟨by decide +kernel, rfl, by decide⟩
theorem dOF_flawOf_109 : decode b_OF_flawOf 109 = .ok (.iconst 1, 1) ∧ 109 + 1 = 110 := ⟨by decide +kernel, rfl⟩
theorem dOF_flawOf_110 : decode b_OF_flawOf 110 = .ok (.goto (4), 3) ∧ 110 + 3 = 113 ∧ ((110 : Nat) : Int) + (4) = ((114 : Nat) : Int) := ⟨by decide +kernel, rfl, by decide⟩
theorem dOF_flawOf_113 : decode b_OF_flawOf 113 = .ok (.iconst 0, 1) ∧ 113 + 1 = 114 := ⟨by decide +kernel, rfl⟩
theorem dOF_flawOf_114 : decode b_OF_flawOf 114 = .ok (.invokestatic 192, 3) ∧ 114 + 3 = 117 := ⟨by decide +kernel, rfl⟩
theorem dOF_flawOf_117 : decode b_OF_flawOf 117 = .ok (.ireturn, 1) ∧ 117 + 1 = 118 := ⟨by decide +kernel, rfl⟩
theorem dOF_flawOf_118 : decode b_OF_flawOf 118 = .ok (.iload_n 1, 1) ∧ 118 + 1 = 119 := ⟨by decide +kernel, rfl⟩
theorem dOF_flawOf_119 : decode b_OF_flawOf 119 = .ok (.ifCond .lt (15), 3) ∧ 119 + 3 = 122 ∧ ((119 : Nat) : Int) + (15) = ((134 : Nat) : Int) := ⟨by decide +kernel, rfl, by decide⟩
theorem dOF_flawOf_122 : decode b_OF_flawOf 122 = .ok (.iload_n 1, 1) ∧ 122 + 1 = 123 := ⟨by decide +kernel, rfl⟩
theorem dOF_flawOf_123 : decode b_OF_flawOf 123 = .ok (.i2l, 1) ∧ 123 + 1 = 124 := ⟨by decide +kernel, rfl⟩
theorem dOF_flawOf_124 : decode b_OF_flawOf 124 = .ok (.lload 4, 2) ∧ 124 + 2 = 126 := ⟨by decide +kernel, rfl⟩
theorem dOF_flawOf_126 : decode b_OF_flawOf 126 = .ok (.lcmp, 1) ∧ 126 + 1 = 127 := ⟨by decide +kernel, rfl⟩
theorem dOF_flawOf_127 : decode b_OF_flawOf 127 = .ok (.ifCond .gt (7), 3) ∧ 127 + 3 = 130 ∧ ((127 : Nat) : Int) + (7) = ((134 : Nat) : Int) := ⟨by decide +kernel, rfl, by decide⟩
theorem dOF_flawOf_130 : decode b_OF_flawOf 130 = .ok (.iconst 1, 1) ∧ 130 + 1 = 131 := ⟨by decide +kernel, rfl⟩
theorem dOF_flawOf_131 : decode b_OF_flawOf 131 = .ok (.goto (4), 3) ∧ 131 + 3 = 134 ∧ ((131 : Nat) : Int) + (4) = ((135 : Nat) : Int) := ⟨by decide +kernel, rfl, by decide⟩
theorem dOF_flawOf_134 : decode b_OF_flawOf 134 = .ok (.iconst 0, 1) ∧ 134 + 1 = 135 := ⟨by decide +kernel, rfl⟩
theorem dOF_flawOf_135 : decode b_OF_flawOf 135 = .ok (.iload_n 2, 1) ∧ 135 + 1 = 136 := ⟨by decide +kernel, rfl⟩
theorem dOF_flawOf_136 : decode b_OF_flawOf 136 = .ok (.ifCond .lt (18), 3) ∧ 136 + 3 = 139 ∧ ((136 : Nat) : Int) + (18) = ((154 : Nat) : Int) := ⟨by decide +kernel, rfl, by decide⟩
theorem dOF_flawOf_139 : decode b_OF_flawOf 139 = .ok (.iload_n 1, 1) ∧ 139 + 1 = 140 := ⟨by decide +kernel, rfl⟩
theorem dOF_flawOf_140 : decode b_OF_flawOf 140 = .ok (.i2l, 1) ∧ 140 + 1 = 141 := ⟨by decide +kernel, rfl⟩
theorem dOF_flawOf_141 : decode b_OF_flawOf 141 = .ok (.iload_n 2, 1) ∧ 141 + 1 = 142 := ⟨by decide +kernel, rfl⟩
theorem dOF_flawOf_142 : decode b_OF_flawOf 142 = .ok (.i2l, 1) ∧ 142 + 1 = 143 := ⟨by decide +kernel, rfl⟩
theorem dOF_flawOf_143 : decode b_OF_flawOf 143 = .ok (.ladd, 1) ∧ 143 + 1 = 144 := ⟨by decide +kernel, rfl⟩
theorem dOF_flawOf_144 : decode b_OF_flawOf 144 = .ok (.lload 4, 2) ∧ 144 + 2 = 146 := ⟨by decide +kernel, rfl⟩
theorem dOF_flawOf_146 : decode b_OF_flawOf 146 = .ok (.lcmp, 1) ∧ 146 + 1 = 147 := ⟨by decide +kernel, rfl⟩
theorem dOF_flawOf_147 : decode b_OF_flawOf 147 = .ok (.ifCond .gt (7), 3) ∧ 147 + 3 = 150 ∧ ((147 : Nat) : Int) + (7) = ((154 : Nat) : Int) := ⟨by decide +kernel, rfl, by decide⟩
theorem dOF_flawOf_150 : decode b_OF_flawOf 150 = .ok (.iconst 1, 1) ∧ 150 + 1 = 151 := ⟨by decide +kernel, rfl⟩
theorem dOF_flawOf_151 : decode b_OF_flawOf 151 = .ok (.goto (4), 3) ∧ 151 + 3 = 154 ∧ ((151 : Nat) : Int) + (4) = ((155 : Nat) : Int) := ⟨by decide +kernel, rfl, by decide⟩
theorem dOF_flawOf_154 : decode b_OF_flawOf 154 = .ok (.iconst 0, 1) ∧ 154 + 1 = 155 := ⟨by decide +kernel, rfl⟩
theorem dOF_flawOf_155 : decode b_OF_flawOf 155 = .ok (.iconst 1, 1) ∧ 155 + 1 = 156 := ⟨by decide +kernel, rfl⟩
theorem dOF_flawOf_156 : decode b_OF_flawOf 156 = .ok (.invokestatic 192, 3) ∧ 156 + 3 = 159 := ⟨by decide +kernel, rfl⟩
theorem dOF_flawOf_159 : decode b_OF_flawOf 159 = .ok (.ireturn, 1) ∧ 159 + 1 = 160 := ⟨by decide +kernel, rfl⟩
theorem dCT_addSymbol_0 : decode b_CT_addSymbol 0 = .ok (.aload_n 0, 1) ∧ 0 + 1 = 1 := ⟨by decide +kernel, rfl⟩
theorem dCT_addSymbol_1 : decode b_CT_addSymbol 1 = .ok (.getfield 44, 3) ∧ 1 + 3 = 4 := ⟨by decide +kernel, rfl⟩
theorem dCT_addSymbol_4 : decode b_CT_addSymbol 4 = .ok (.ifCond .lt (23), 3) ∧ 4 + 3 = 7 ∧ ((4 : Nat) : Int) + (23) = ((27 : Nat) : Int) := ⟨by decide +kernel, rfl, by decide⟩
theorem dCT_addSymbol_7 : decode b_CT_addSymbol 7 = .ok (.aload_n 0, 1) ∧ 7 + 1 = 8 := ⟨by decide +kernel, rfl⟩
theorem dCT_addSymbol_8 : decode b_CT_addSymbol 8 = .ok (.getfield 44, 3) ∧ 8 + 3 = 11 := ⟨by decide +kernel, rfl⟩
theorem dCT_addSymbol_11 : decode b_CT_addSymbol 11 = .ok (.bipush (100), 2) ∧ 11 + 2 = 13 := ⟨by decide +kernel, rfl⟩
theorem dCT_addSymbol_13 : decode b_CT_addSymbol 13 = .ok (.if_icmp .ge (14), 3) ∧ 13 + 3 = 16 ∧ ((13 : Nat) : Int) + (14) = ((27 : Nat) : Int) := ⟨by decide +kernel, rfl, by decide⟩
theorem dCT_addSymbol_16 : decode b_CT_addSymbol 16 = .ok (.iload_n 3, 1) ∧ 16 + 1 = 17 := ⟨by decide +kernel, rfl⟩
theorem dCT_addSymbol_17 : decode b_CT_addSymbol 17 = .ok (.iconst 1, 1) ∧ 17 + 1 = 18 := ⟨by decide +kernel, rfl⟩
theorem dCT_addSymbol_18 : decode b_CT_addSymbol 18 = .ok (.if_icmp .lt (9), 3) ∧ 18 + 3 = 21 ∧ ((18 : Nat) : Int) + (9) = ((27 : Nat) : Int) := ⟨by decide +kernel, rfl, by decide⟩
theorem dCT_addSymbol_21 : decode b_CT_addSymbol 21 = .ok (.iload_n 3, 1) ∧ 21 + 1 = 22 := ⟨by decide +kernel, rfl⟩
theorem dCT_addSymbol_22 : decode b_CT_addSymbol 22 = .ok (.bipush (16), 2) ∧ 22 + 2 = 24 := ⟨by decide +kernel, rfl⟩
theorem dCT_addSymbol_24 : decode b_CT_addSymbol 24 = .ok (.if_icmp .le (5), 3) ∧ 24 + 3 = 27 ∧ ((24 : Nat) : Int) + (5) = ((29 : Nat) : Int) := ⟨by decide +kernel, rfl, by decide⟩
theorem dCT_addSymbol_27 : decode b_CT_addSymbol 27 = .ok (.iconst (-1), 1) ∧ 27 + 1 = 28 := ⟨by decide +kernel, rfl⟩
theorem dCT_addSymbol_28 : decode b_CT_addSymbol 28 = .ok (.ireturn, 1) ∧ 28 + 1 = 29 := ⟨by decide +kernel, rfl⟩
theorem dCT_addSymbol_29 : decode b_CT_addSymbol 29 = .ok (.iload_n 2, 1) ∧ 29 + 1 = 30 := ⟨by decide +kernel, rfl⟩
theorem dCT_addSymbol_30 : decode b_CT_addSymbol 30 = .ok (.ifCond .lt (11), 3) ∧ 30 + 3 = 33 ∧ ((30 : Nat) : Int) + (11) = ((41 : Nat) : Int) := ⟨by decide +kernel, rfl, by decide⟩
theorem dCT_addSymbol_33 : decode b_CT_addSymbol 33 = .ok (.iload_n 2, 1) ∧ 33 + 1 = 34 := ⟨by decide +kernel, rfl⟩
theorem dCT_addSymbol_34 : decode b_CT_addSymbol 34 = .ok (.aload_n 1, 1) ∧ 34 + 1 = 35 := ⟨by decide +kernel, rfl⟩
theorem dCT_addSymbol_35 : decode b_CT_addSymbol 35 = .ok (.arraylength, 1) ∧ 35 + 1 = 36 := ⟨by decide +kernel, rfl⟩
theorem dCT_addSymbol_36 : decode b_CT_addSymbol 36 = .ok (.iload_n 3, 1) ∧ 36 + 1 = 37 := ⟨by decide +kernel, rfl⟩
theorem dCT_addSymbol_37 : decode b_CT_addSymbol 37 = .ok (.isub, 1) ∧ 37 + 1 = 38 := ⟨by decide +kernel, rfl⟩
theorem dCT_addSymbol_38 : decode b_CT_addSymbol 38 = .ok (.if_icmp .le (5), 3) ∧ 38 + 3 = 41 ∧ ((38 : Nat) : Int) + (5) = ((43 : Nat) : Int) := ⟨by decide +kernel, rfl, by decide⟩
theorem dCT_addSymbol_41 : decode b_CT_addSymbol 41 = .ok (.iconst (-1), 1) ∧ 41 + 1 = 42 := ⟨by decide +kernel, rfl⟩
theorem dCT_addSymbol_42 : decode b_CT_addSymbol 42 = .ok (.ireturn, 1) ∧ 42 + 1 = 43 := ⟨by decide +kernel, rfl⟩
theorem dCT_addSymbol_43 : decode b_CT_addSymbol 43 = .ok (.aload_n 0, 1) ∧ 43 + 1 = 44 := ⟨by decide +kernel, rfl⟩
theorem dCT_addSymbol_44 : decode b_CT_addSymbol 44 = .ok (.getfield 44, 3) ∧ 44 + 3 = 47 := ⟨by decide +kernel, rfl⟩
theorem dCT_addSymbol_47 : decode b_CT_addSymbol 47 = .ok (.istore 4, 2) ∧ 47 + 2 = 49 := ⟨by decide +kernel, rfl⟩
theorem dCT_addSymbol_49 : decode b_CT_addSymbol 49 = .ok (.aload_n 0, 1) ∧ 49 + 1 = 50 := ⟨by decide +kernel, rfl⟩
theorem dCT_addSymbol_50 : decode b_CT_addSymbol 50 = .ok (.dup, 1) ∧ 50 + 1 = 51 := ⟨by decide +kernel, rfl⟩
theorem dCT_addSymbol_51 : decode b_CT_addSymbol 51 = .ok (.getfield 44, 3) ∧ 51 + 3 = 54 := ⟨by decide +kernel, rfl⟩
theorem dCT_addSymbol_54 : decode b_CT_addSymbol 54 = .ok (.iconst 1, 1) ∧ 54 + 1 = 55 := ⟨by decide +kernel, rfl⟩
theorem dCT_addSymbol_55 : decode b_CT_addSymbol 55 = .ok (.iadd, 1) ∧ 55 + 1 = 56 := ⟨by decide +kernel, rfl⟩
theorem dCT_addSymbol_56 : decode b_CT_addSymbol 56 = .ok (.putfield 44, 3) ∧ 56 + 3 = 59 := ⟨by decide +kernel, rfl⟩
theorem dCT_addSymbol_59 : decode b_CT_addSymbol 59 = .ok (.aload_n 1, 1) ∧ 59 + 1 = 60 := ⟨by decide +kernel, rfl⟩
theorem dCT_addSymbol_60 : decode b_CT_addSymbol 60 = .ok (.iload_n 2, 1) ∧ 60 + 1 = 61 := ⟨by decide +kernel, rfl⟩
theorem dCT_addSymbol_61 : decode b_CT_addSymbol 61 = .ok (.aload_n 0, 1) ∧ 61 + 1 = 62 := ⟨by decide +kernel, rfl⟩
theorem dCT_addSymbol_62 : decode b_CT_addSymbol 62 = .ok (.getfield 28, 3) ∧ 62 + 3 = 65 := ⟨by decide +kernel, rfl⟩
theorem dCT_addSymbol_65 : decode b_CT_addSymbol 65 = .ok (.iload 4, 2) ∧ 65 + 2 = 67 := ⟨by decide +kernel, rfl⟩
theorem dCT_addSymbol_67 : decode b_CT_addSymbol 67 = .ok (.bipush (16), 2) ∧ 67 + 2 = 69 := ⟨by decide +kernel, rfl⟩
theorem dCT_addSymbol_69 : decode b_CT_addSymbol 69 = .ok (.imul, 1) ∧ 69 + 1 = 70 := ⟨by decide +kernel, rfl⟩
theorem dCT_addSymbol_70 : decode b_CT_addSymbol 70 = .ok (.iload_n 3, 1) ∧ 70 + 1 = 71 := ⟨by decide +kernel, rfl⟩
theorem dCT_addSymbol_71 : decode b_CT_addSymbol 71 = .ok (.invokestatic 50, 3) ∧ 71 + 3 = 74 := ⟨by decide +kernel, rfl⟩
theorem dCT_addSymbol_74 : decode b_CT_addSymbol 74 = .ok (.aload_n 0, 1) ∧ 74 + 1 = 75 := ⟨by decide +kernel, rfl⟩
theorem dCT_addSymbol_75 : decode b_CT_addSymbol 75 = .ok (.getfield 25, 3) ∧ 75 + 3 = 78 := ⟨by decide +kernel, rfl⟩
theorem dCT_addSymbol_78 : decode b_CT_addSymbol 78 = .ok (.iload 4, 2) ∧ 78 + 2 = 80 := ⟨by decide +kernel, rfl⟩
theorem dCT_addSymbol_80 : decode b_CT_addSymbol 80 = .ok (.bipush (6), 2) ∧ 80 + 2 = 82 := ⟨by decide +kernel, rfl⟩
theorem dCT_addSymbol_82 : decode b_CT_addSymbol 82 = .ok (.imul, 1) ∧ 82 + 1 = 83 := ⟨by decide +kernel, rfl⟩
theorem dCT_addSymbol_83 : decode b_CT_addSymbol 83 = .ok (.iconst 5, 1) ∧ 83 + 1 = 84 := ⟨by decide +kernel, rfl⟩
theorem dCT_addSymbol_84 : decode b_CT_addSymbol 84 = .ok (.iadd, 1) ∧ 84 + 1 = 85 := ⟨by decide +kernel, rfl⟩
theorem dCT_addSymbol_85 : decode b_CT_addSymbol 85 = .ok (.iload_n 3, 1) ∧ 85 + 1 = 86 := ⟨by decide +kernel, rfl⟩
theorem dCT_addSymbol_86 : decode b_CT_addSymbol 86 = .ok (.iastore, 1) ∧ 86 + 1 = 87 := ⟨by decide +kernel, rfl⟩
theorem dCT_addSymbol_87 : decode b_CT_addSymbol 87 = .ok (.iload 4, 2) ∧ 87 + 2 = 89 := ⟨by decide +kernel, rfl⟩
theorem dCT_addSymbol_89 : decode b_CT_addSymbol 89 = .ok (.ireturn, 1) ∧ 89 + 1 = 90 := ⟨by decide +kernel, rfl⟩
theorem dCT_tellSymbol_0 : decode b_CT_tellSymbol 0 = .ok (.iload_n 1, 1) ∧ 0 + 1 = 1 := ⟨by decide +kernel, rfl⟩
theorem dCT_tellSymbol_1 : decode b_CT_tellSymbol 1 = .ok (.ifCond .lt (11), 3) ∧ 1 + 3 = 4 ∧ ((1 : Nat) : Int) + (11) = ((12 : Nat) : Int) := ⟨by decide +kernel, rfl, by decide⟩
theorem dCT_tellSymbol_4 : decode b_CT_tellSymbol 4 = .ok (.iload_n 1, 1) ∧ 4 + 1 = 5 := ⟨by decide +kernel, rfl⟩
theorem dCT_tellSymbol_5 : decode b_CT_tellSymbol 5 = .ok (.aload_n 0, 1) ∧ 5 + 1 = 6 := ⟨by decide +kernel, rfl⟩
theorem dCT_tellSymbol_6 : decode b_CT_tellSymbol 6 = .ok (.getfield 44, 3) ∧ 6 + 3 = 9 := ⟨by decide +kernel, rfl⟩
theorem dCT_tellSymbol_9 : decode b_CT_tellSymbol 9 = .ok (.if_icmp .lt (4), 3) ∧ 9 + 3 = 12 ∧ ((9 : Nat) : Int) + (4) = ((13 : Nat) : Int) := ⟨by decide +kernel, rfl, by decide⟩
theorem dCT_tellSymbol_12 : decode b_CT_tellSymbol 12 = .ok (.return_, 1) ∧ 12 + 1 = 13 := ⟨by decide +kernel, rfl⟩
theorem dCT_tellSymbol_13 : decode b_CT_tellSymbol 13 = .ok (.iload_n 1, 1) ∧ 13 + 1 = 14 := ⟨by decide +kernel, rfl⟩
theorem dCT_tellSymbol_14 : decode b_CT_tellSymbol 14 = .ok (.bipush (6), 2) ∧ 14 + 2 = 16 := ⟨by decide +kernel, rfl⟩
theorem dCT_tellSymbol_16 : decode b_CT_tellSymbol 16 = .ok (.imul, 1) ∧ 16 + 1 = 17 := ⟨by decide +kernel, rfl⟩
theorem dCT_tellSymbol_17 : decode b_CT_tellSymbol 17 = .ok (.istore 7, 2) ∧ 17 + 2 = 19 := ⟨by decide +kernel, rfl⟩
theorem dCT_tellSymbol_19 : decode b_CT_tellSymbol 19 = .ok (.aload_n 0, 1) ∧ 19 + 1 = 20 := ⟨by decide +kernel, rfl⟩
theorem dCT_tellSymbol_20 : decode b_CT_tellSymbol 20 = .ok (.getfield 25, 3) ∧ 20 + 3 = 23 := ⟨by decide +kernel, rfl⟩
theorem dCT_tellSymbol_23 : decode b_CT_tellSymbol 23 = .ok (.iload 7, 2) ∧ 23 + 2 = 25 := ⟨by decide +kernel, rfl⟩
theorem dCT_tellSymbol_25 : decode b_CT_tellSymbol 25 = .ok (.iconst 0, 1) ∧ 25 + 1 = 26 := ⟨by decide +kernel, rfl⟩
theorem dCT_tellSymbol_26 : decode b_CT_tellSymbol 26 = .ok (.iadd, 1) ∧ 26 + 1 = 27 := ⟨by decide +kernel, rfl⟩
theorem dCT_tellSymbol_27 : decode b_CT_tellSymbol 27 = .ok (.iload_n 2, 1) ∧ 27 + 1 = 28 := ⟨by decide +kernel, rfl⟩
theorem dCT_tellSymbol_28 : decode b_CT_tellSymbol 28 = .ok (.iastore, 1) ∧ 28 + 1 = 29 := ⟨by decide +kernel, rfl⟩
theorem dCT_tellSymbol_29 : decode b_CT_tellSymbol 29 = .ok (.aload_n 0, 1) ∧ 29 + 1 = 30 := ⟨by decide +kernel, rfl⟩
theorem dCT_tellSymbol_30 : decode b_CT_tellSymbol 30 = .ok (.getfield 25, 3) ∧ 30 + 3 = 33 := ⟨by decide +kernel, rfl⟩
theorem dCT_tellSymbol_33 : decode b_CT_tellSymbol 33 = .ok (.iload 7, 2) ∧ 33 + 2 = 35 := ⟨by decide +kernel, rfl⟩
theorem dCT_tellSymbol_35 : decode b_CT_tellSymbol 35 = .ok (.iconst 1, 1) ∧ 35 + 1 = 36 := ⟨by decide +kernel, rfl⟩
theorem dCT_tellSymbol_36 : decode b_CT_tellSymbol 36 = .ok (.iadd, 1) ∧ 36 + 1 = 37 := ⟨by decide +kernel, rfl⟩
theorem dCT_tellSymbol_37 : decode b_CT_tellSymbol 37 = .ok (.iload_n 3, 1) ∧ 37 + 1 = 38 := ⟨by decide +kernel, rfl⟩
theorem dCT_tellSymbol_38 : decode b_CT_tellSymbol 38 = .ok (.iastore, 1) ∧ 38 + 1 = 39 := ⟨by decide +kernel, rfl⟩
theorem dCT_tellSymbol_39 : decode b_CT_tellSymbol 39 = .ok (.aload_n 0, 1) ∧ 39 + 1 = 40 := ⟨by decide +kernel, rfl⟩
theorem dCT_tellSymbol_40 : decode b_CT_tellSymbol 40 = .ok (.getfield 25, 3) ∧ 40 + 3 = 43 := ⟨by decide +kernel, rfl⟩
theorem dCT_tellSymbol_43 : decode b_CT_tellSymbol 43 = .ok (.iload 7, 2) ∧ 43 + 2 = 45 := ⟨by decide +kernel, rfl⟩
theorem dCT_tellSymbol_45 : decode b_CT_tellSymbol 45 = .ok (.iconst 2, 1) ∧ 45 + 1 = 46 := ⟨by decide +kernel, rfl⟩
theorem dCT_tellSymbol_46 : decode b_CT_tellSymbol 46 = .ok (.iadd, 1) ∧ 46 + 1 = 47 := ⟨by decide +kernel, rfl⟩
theorem dCT_tellSymbol_47 : decode b_CT_tellSymbol 47 = .ok (.iload 4, 2) ∧ 47 + 2 = 49 := ⟨by decide +kernel, rfl⟩
theorem dCT_tellSymbol_49 : decode b_CT_tellSymbol 49 = .ok (.iastore, 1) ∧ 49 + 1 = 50 := ⟨by decide +kernel, rfl⟩
theorem dCT_tellSymbol_50 : decode b_CT_tellSymbol 50 = .ok (.aload_n 0, 1) ∧ 50 + 1 = 51 := ⟨by decide +kernel, rfl⟩
theorem dCT_tellSymbol_51 : decode b_CT_tellSymbol 51 = .ok (.getfield 25, 3) ∧ 51 + 3 = 54 := ⟨by decide +kernel, rfl⟩
theorem dCT_tellSymbol_54 : decode b_CT_tellSymbol 54 = .ok (.iload 7, 2) ∧ 54 + 2 = 56 := ⟨by decide +kernel, rfl⟩
theorem dCT_tellSymbol_56 : decode b_CT_tellSymbol 56 = .ok (.iconst 3, 1) ∧ 56 + 1 = 57 := ⟨by decide +kernel, rfl⟩
theorem dCT_tellSymbol_57 : decode b_CT_tellSymbol 57 = .ok (.iadd, 1) ∧ 57 + 1 = 58 := ⟨by decide +kernel, rfl⟩
theorem dCT_tellSymbol_58 : decode b_CT_tellSymbol 58 = .ok (.iload 5, 2) ∧ 58 + 2 = 60 := ⟨by decide +kernel, rfl⟩
theorem dCT_tellSymbol_60 : decode b_CT_tellSymbol 60 = .ok (.iastore, 1) ∧ 60 + 1 = 61 := ⟨by decide +kernel, rfl⟩
theorem dCT_tellSymbol_61 : decode b_CT_tellSymbol 61 = .ok (.aload_n 0, 1) ∧ 61 + 1 = 62 := ⟨by decide +kernel, rfl⟩
theorem dCT_tellSymbol_62 : decode b_CT_tellSymbol 62 = .ok (.getfield 25, 3) ∧ 62 + 3 = 65 := ⟨by decide +kernel, rfl⟩
theorem dCT_tellSymbol_65 : decode b_CT_tellSymbol 65 = .ok (.iload 7, 2) ∧ 65 + 2 = 67 := ⟨by decide +kernel, rfl⟩
theorem dCT_tellSymbol_67 : decode b_CT_tellSymbol 67 = .ok (.iconst 4, 1) ∧ 67 + 1 = 68 := ⟨by decide +kernel, rfl⟩
theorem dCT_tellSymbol_68 : decode b_CT_tellSymbol 68 = .ok (.iadd, 1) ∧ 68 + 1 = 69 := ⟨by decide +kernel, rfl⟩
theorem dCT_tellSymbol_69 : decode b_CT_tellSymbol 69 = .ok (.iload 6, 2) ∧ 69 + 2 = 71 := ⟨by decide +kernel, rfl⟩
theorem dCT_tellSymbol_71 : decode b_CT_tellSymbol 71 = .ok (.iastore, 1) ∧ 71 + 1 = 72 := ⟨by decide +kernel, rfl⟩
theorem dCT_tellSymbol_72 : decode b_CT_tellSymbol 72 = .ok (.return_, 1) ∧ 72 + 1 = 73 := ⟨by decide +kernel, rfl⟩
theorem dCT_symbolFact_0 : decode b_CT_symbolFact 0 = .ok (.iload_n 1, 1) ∧ 0 + 1 = 1 := ⟨by decide +kernel, rfl⟩
theorem dCT_symbolFact_1 : decode b_CT_symbolFact 1 = .ok (.ifCond .lt (21), 3) ∧ 1 + 3 = 4 ∧ ((1 : Nat) : Int) + (21) = ((22 : Nat) : Int) := ⟨by decide +kernel, rfl, by decide⟩
theorem dCT_symbolFact_4 : decode b_CT_symbolFact 4 = .ok (.iload_n 1, 1) ∧ 4 + 1 = 5 := ⟨by decide +kernel, rfl⟩
theorem dCT_symbolFact_5 : decode b_CT_symbolFact 5 = .ok (.aload_n 0, 1) ∧ 5 + 1 = 6 := ⟨by decide +kernel, rfl⟩
theorem dCT_symbolFact_6 : decode b_CT_symbolFact 6 = .ok (.getfield 44, 3) ∧ 6 + 3 = 9 := ⟨by decide +kernel, rfl⟩
theorem dCT_symbolFact_9 : decode b_CT_symbolFact 9 = .ok (.if_icmp .ge (13), 3) ∧ 9 + 3 = 12 ∧ ((9 : Nat) : Int) + (13) = ((22 : Nat) : Int) := ⟨by decide +kernel, rfl, by decide⟩
theorem dCT_symbolFact_12 : decode b_CT_symbolFact 12 = .ok (.iload_n 2, 1) ∧ 12 + 1 = 13 := ⟨by decide +kernel, rfl⟩
theorem dCT_symbolFact_13 : decode b_CT_symbolFact 13 = .ok (.ifCond .lt (9), 3) ∧ 13 + 3 = 16 ∧ ((13 : Nat) : Int) + (9) = ((22 : Nat) : Int) := ⟨by decide +kernel, rfl, by decide⟩
theorem dCT_symbolFact_16 : decode b_CT_symbolFact 16 = .ok (.iload_n 2, 1) ∧ 16 + 1 = 17 := ⟨by decide +kernel, rfl⟩
theorem dCT_symbolFact_17 : decode b_CT_symbolFact 17 = .ok (.bipush (6), 2) ∧ 17 + 2 = 19 := ⟨by decide +kernel, rfl⟩
theorem dCT_symbolFact_19 : decode b_CT_symbolFact 19 = .ok (.if_icmp .lt (5), 3) ∧ 19 + 3 = 22 ∧ ((19 : Nat) : Int) + (5) = ((24 : Nat) : Int) := ⟨by decide +kernel, rfl, by decide⟩
theorem dCT_symbolFact_22 : decode b_CT_symbolFact 22 = .ok (.iconst (-1), 1) ∧ 22 + 1 = 23 := ⟨by decide +kernel, rfl⟩
theorem dCT_symbolFact_23 : decode b_CT_symbolFact 23 = .ok (.ireturn, 1) ∧ 23 + 1 = 24 := ⟨by decide +kernel, rfl⟩
theorem dCT_symbolFact_24 : decode b_CT_symbolFact 24 = .ok (.aload_n 0, 1) ∧ 24 + 1 = 25 := ⟨by decide +kernel, rfl⟩
theorem dCT_symbolFact_25 : decode b_CT_symbolFact 25 = .ok (.getfield 25, 3) ∧ 25 + 3 = 28 := ⟨by decide +kernel, rfl⟩
theorem dCT_symbolFact_28 : decode b_CT_symbolFact 28 = .ok (.iload_n 1, 1) ∧ 28 + 1 = 29 := ⟨by decide +kernel, rfl⟩
theorem dCT_symbolFact_29 : decode b_CT_symbolFact 29 = .ok (.bipush (6), 2) ∧ 29 + 2 = 31 := ⟨by decide +kernel, rfl⟩
theorem dCT_symbolFact_31 : decode b_CT_symbolFact 31 = .ok (.imul, 1) ∧ 31 + 1 = 32 := ⟨by decide +kernel, rfl⟩
theorem dCT_symbolFact_32 : decode b_CT_symbolFact 32 = .ok (.iload_n 2, 1) ∧ 32 + 1 = 33 := ⟨by decide +kernel, rfl⟩
theorem dCT_symbolFact_33 : decode b_CT_symbolFact 33 = .ok (.iadd, 1) ∧ 33 + 1 = 34 := ⟨by decide +kernel, rfl⟩
theorem dCT_symbolFact_34 : decode b_CT_symbolFact 34 = .ok (.iaload, 1) ∧ 34 + 1 = 35 := ⟨by decide +kernel, rfl⟩
theorem dCT_symbolFact_35 : decode b_CT_symbolFact 35 = .ok (.ireturn, 1) ∧ 35 + 1 = 36 := ⟨by decide +kernel, rfl⟩
theorem dCT_nameCharacter_0 : decode b_CT_nameCharacter 0 = .ok (.iload_n 2, 1) ∧ 0 + 1 = 1 := ⟨by decide +kernel, rfl⟩
theorem dCT_nameCharacter_1 : decode b_CT_nameCharacter 1 = .ok (.ifCond .lt (13), 3) ∧ 1 + 3 = 4 ∧ ((1 : Nat) : Int) + (13) = ((14 : Nat) : Int) := ⟨by decide +kernel, rfl, by decide⟩
theorem dCT_nameCharacter_4 : decode b_CT_nameCharacter 4 = .ok (.iload_n 2, 1) ∧ 4 + 1 = 5 := ⟨by decide +kernel, rfl⟩
theorem dCT_nameCharacter_5 : decode b_CT_nameCharacter 5 = .ok (.aload_n 0, 1) ∧ 5 + 1 = 6 := ⟨by decide +kernel, rfl⟩
theorem dCT_nameCharacter_6 : decode b_CT_nameCharacter 6 = .ok (.iload_n 1, 1) ∧ 6 + 1 = 7 := ⟨by decide +kernel, rfl⟩
theorem dCT_nameCharacter_7 : decode b_CT_nameCharacter 7 = .ok (.iconst 5, 1) ∧ 7 + 1 = 8 := ⟨by decide +kernel, rfl⟩
theorem dCT_nameCharacter_8 : decode b_CT_nameCharacter 8 = .ok (.invokevirtual 68, 3) ∧ 8 + 3 = 11 := ⟨by decide +kernel, rfl⟩
theorem dCT_nameCharacter_11 : decode b_CT_nameCharacter 11 = .ok (.if_icmp .lt (7), 3) ∧ 11 + 3 = 14 ∧ ((11 : Nat) : Int) + (7) = ((18 : Nat) : Int) := ⟨by decide +kernel, rfl, by decide⟩
theorem dCT_nameCharacter_14 : decode b_CT_nameCharacter 14 = .ok (.iconst (-1), 1) ∧ 14 + 1 = 15 := ⟨by decide +kernel, rfl⟩
theorem dCT_nameCharacter_15 : decode b_CT_nameCharacter 15 = .ok (.goto (14), 3) ∧ 15 + 3 = 18 ∧ ((15 : Nat) : Int) + (14) = ((29 : Nat) : Int) := ⟨by decide +kernel, rfl, by decide⟩
theorem dCT_nameCharacter_18 : decode b_CT_nameCharacter 18 = .ok (.aload_n 0, 1) ∧ 18 + 1 = 19 := ⟨by decide +kernel, rfl⟩
theorem dCT_nameCharacter_19 : decode b_CT_nameCharacter 19 = .ok (.getfield 28, 3) ∧ 19 + 3 = 22 := ⟨by decide +kernel, rfl⟩
theorem dCT_nameCharacter_22 : decode b_CT_nameCharacter 22 = .ok (.iload_n 1, 1) ∧ 22 + 1 = 23 := ⟨by decide +kernel, rfl⟩
theorem dCT_nameCharacter_23 : decode b_CT_nameCharacter 23 = .ok (.bipush (16), 2) ∧ 23 + 2 = 25 := ⟨by decide +kernel, rfl⟩
theorem dCT_nameCharacter_25 : decode b_CT_nameCharacter 25 = .ok (.imul, 1) ∧ 25 + 1 = 26 := ⟨by decide +kernel, rfl⟩
theorem dCT_nameCharacter_26 : decode b_CT_nameCharacter 26 = .ok (.iload_n 2, 1) ∧ 26 + 1 = 27 := ⟨by decide +kernel, rfl⟩
theorem dCT_nameCharacter_27 : decode b_CT_nameCharacter 27 = .ok (.iadd, 1) ∧ 27 + 1 = 28 := ⟨by decide +kernel, rfl⟩
theorem dCT_nameCharacter_28 : decode b_CT_nameCharacter 28 = .ok (.baload, 1) ∧ 28 + 1 = 29 := ⟨by decide +kernel, rfl⟩
theorem dCT_nameCharacter_29 : decode b_CT_nameCharacter 29 = .ok (.ireturn, 1) ∧ 29 + 1 = 30 := ⟨by decide +kernel, rfl⟩
theorem dCT_hasName_0 : decode b_CT_hasName 0 = .ok (.aload_n 0, 1) ∧ 0 + 1 = 1 := ⟨by decide +kernel, rfl⟩
theorem dCT_hasName_1 : decode b_CT_hasName 1 = .ok (.iload_n 1, 1) ∧ 1 + 1 = 2 := ⟨by decide +kernel, rfl⟩
theorem dCT_hasName_2 : decode b_CT_hasName 2 = .ok (.iconst 5, 1) ∧ 2 + 1 = 3 := ⟨by decide +kernel, rfl⟩
theorem dCT_hasName_3 : decode b_CT_hasName 3 = .ok (.invokevirtual 68, 3) ∧ 3 + 3 = 6 := ⟨by decide +kernel, rfl⟩
theorem dCT_hasName_6 : decode b_CT_hasName 6 = .ok (.iload_n 3, 1) ∧ 6 + 1 = 7 := ⟨by decide +kernel, rfl⟩
theorem dCT_hasName_7 : decode b_CT_hasName 7 = .ok (.if_icmp .ne (9), 3) ∧ 7 + 3 = 10 ∧ ((7 : Nat) : Int) + (9) = ((16 : Nat) : Int) := ⟨by decide +kernel, rfl, by decide⟩
theorem dCT_hasName_10 : decode b_CT_hasName 10 = .ok (.iload_n 3, 1) ∧ 10 + 1 = 11 := ⟨by decide +kernel, rfl⟩
theorem dCT_hasName_11 : decode b_CT_hasName 11 = .ok (.aload_n 2, 1) ∧ 11 + 1 = 12 := ⟨by decide +kernel, rfl⟩
theorem dCT_hasName_12 : decode b_CT_hasName 12 = .ok (.arraylength, 1) ∧ 12 + 1 = 13 := ⟨by decide +kernel, rfl⟩
theorem dCT_hasName_13 : decode b_CT_hasName 13 = .ok (.if_icmp .le (5), 3) ∧ 13 + 3 = 16 ∧ ((13 : Nat) : Int) + (5) = ((18 : Nat) : Int) := ⟨by decide +kernel, rfl, by decide⟩
theorem dCT_hasName_16 : decode b_CT_hasName 16 = .ok (.iconst 0, 1) ∧ 16 + 1 = 17 := ⟨by decide +kernel, rfl⟩
theorem dCT_hasName_17 : decode b_CT_hasName 17 = .ok (.ireturn, 1) ∧ 17 + 1 = 18 := ⟨by decide +kernel, rfl⟩
theorem dCT_hasName_18 : decode b_CT_hasName 18 = .ok (.iconst 0, 1) ∧ 18 + 1 = 19 := ⟨by decide +kernel, rfl⟩
theorem dCT_hasName_19 : decode b_CT_hasName 19 = .ok (.istore 4, 2) ∧ 19 + 2 = 21 := ⟨by decide +kernel, rfl⟩
theorem dCT_hasName_21 : decode b_CT_hasName 21 = .ok (.iload 4, 2) ∧ 21 + 2 = 23 := ⟨by decide +kernel, rfl⟩
theorem dCT_hasName_23 : decode b_CT_hasName 23 = .ok (.iload_n 3, 1) ∧ 23 + 1 = 24 := ⟨by decide +kernel, rfl⟩
theorem dCT_hasName_24 : decode b_CT_hasName 24 = .ok (.if_icmp .ge (25), 3) ∧ 24 + 3 = 27 ∧ ((24 : Nat) : Int) + (25) = ((49 : Nat) : Int) := ⟨by decide +kernel, rfl, by decide⟩
theorem dCT_hasName_27 : decode b_CT_hasName 27 = .ok (.aload_n 0, 1) ∧ 27 + 1 = 28 := ⟨by decide +kernel, rfl⟩
theorem dCT_hasName_28 : decode b_CT_hasName 28 = .ok (.iload_n 1, 1) ∧ 28 + 1 = 29 := ⟨by decide +kernel, rfl⟩
theorem dCT_hasName_29 : decode b_CT_hasName 29 = .ok (.iload 4, 2) ∧ 29 + 2 = 31 := ⟨by decide +kernel, rfl⟩
theorem dCT_hasName_31 : decode b_CT_hasName 31 = .ok (.invokevirtual 75, 3) ∧ 31 + 3 = 34 := ⟨by decide +kernel, rfl⟩
theorem dCT_hasName_34 : decode b_CT_hasName 34 = .ok (.aload_n 2, 1) ∧ 34 + 1 = 35 := ⟨by decide +kernel, rfl⟩
theorem dCT_hasName_35 : decode b_CT_hasName 35 = .ok (.iload 4, 2) ∧ 35 + 2 = 37 := ⟨by decide +kernel, rfl⟩
theorem dCT_hasName_37 : decode b_CT_hasName 37 = .ok (.baload, 1) ∧ 37 + 1 = 38 := ⟨by decide +kernel, rfl⟩
theorem dCT_hasName_38 : decode b_CT_hasName 38 = .ok (.if_icmp .eq (5), 3) ∧ 38 + 3 = 41 ∧ ((38 : Nat) : Int) + (5) = ((43 : Nat) : Int) := ⟨by decide +kernel, rfl, by decide⟩
theorem dCT_hasName_41 : decode b_CT_hasName 41 = .ok (.iconst 0, 1) ∧ 41 + 1 = 42 := ⟨by decide +kernel, rfl⟩
theorem dCT_hasName_42 : decode b_CT_hasName 42 = .ok (.ireturn, 1) ∧ 42 + 1 = 43 := ⟨by decide +kernel, rfl⟩
theorem dCT_hasName_43 : decode b_CT_hasName 43 = .ok (.iinc 4 (1), 3) ∧ 43 + 3 = 46 := ⟨by decide +kernel, rfl⟩
theorem dCT_hasName_46 : decode b_CT_hasName 46 = .ok (.goto (-25), 3) ∧ 46 + 3 = 49 ∧ ((46 : Nat) : Int) + (-25) = ((21 : Nat) : Int) := ⟨by decide +kernel, rfl, by decide⟩
theorem dCT_hasName_49 : decode b_CT_hasName 49 = .ok (.iconst 1, 1) ∧ 49 + 1 = 50 := ⟨by decide +kernel, rfl⟩
theorem dCT_hasName_50 : decode b_CT_hasName 50 = .ok (.ireturn, 1) ∧ 50 + 1 = 51 := ⟨by decide +kernel, rfl⟩
theorem dCT_hasGlobal_0 : decode b_CT_hasGlobal 0 = .ok (.iconst 0, 1) ∧ 0 + 1 = 1 := ⟨by decide +kernel, rfl⟩
theorem dCT_hasGlobal_1 : decode b_CT_hasGlobal 1 = .ok (.istore_n 3, 1) ∧ 1 + 1 = 2 := ⟨by decide +kernel, rfl⟩
theorem dCT_hasGlobal_2 : decode b_CT_hasGlobal 2 = .ok (.iload_n 3, 1) ∧ 2 + 1 = 3 := ⟨by decide +kernel, rfl⟩
theorem dCT_hasGlobal_3 : decode b_CT_hasGlobal 3 = .ok (.aload_n 0, 1) ∧ 3 + 1 = 4 := ⟨by decide +kernel, rfl⟩
theorem dCT_hasGlobal_4 : decode b_CT_hasGlobal 4 = .ok (.getfield 44, 3) ∧ 4 + 3 = 7 := ⟨by decide +kernel, rfl⟩
theorem dCT_hasGlobal_7 : decode b_CT_hasGlobal 7 = .ok (.if_icmp .ge (30), 3) ∧ 7 + 3 = 10 ∧ ((7 : Nat) : Int) + (30) = ((37 : Nat) : Int) := ⟨by decide +kernel, rfl, by decide⟩
theorem dCT_hasGlobal_10 : decode b_CT_hasGlobal 10 = .ok (.aload_n 0, 1) ∧ 10 + 1 = 11 := ⟨by decide +kernel, rfl⟩
theorem dCT_hasGlobal_11 : decode b_CT_hasGlobal 11 = .ok (.iload_n 3, 1) ∧ 11 + 1 = 12 := ⟨by decide +kernel, rfl⟩
theorem dCT_hasGlobal_12 : decode b_CT_hasGlobal 12 = .ok (.iconst 3, 1) ∧ 12 + 1 = 13 := ⟨by decide +kernel, rfl⟩
theorem dCT_hasGlobal_13 : decode b_CT_hasGlobal 13 = .ok (.invokevirtual 68, 3) ∧ 13 + 3 = 16 := ⟨by decide +kernel, rfl⟩
theorem dCT_hasGlobal_16 : decode b_CT_hasGlobal 16 = .ok (.ifCond .eq (15), 3) ∧ 16 + 3 = 19 ∧ ((16 : Nat) : Int) + (15) = ((31 : Nat) : Int) := ⟨by decide +kernel, rfl, by decide⟩
theorem dCT_hasGlobal_19 : decode b_CT_hasGlobal 19 = .ok (.aload_n 0, 1) ∧ 19 + 1 = 20 := ⟨by decide +kernel, rfl⟩
theorem dCT_hasGlobal_20 : decode b_CT_hasGlobal 20 = .ok (.iload_n 3, 1) ∧ 20 + 1 = 21 := ⟨by decide +kernel, rfl⟩
theorem dCT_hasGlobal_21 : decode b_CT_hasGlobal 21 = .ok (.aload_n 1, 1) ∧ 21 + 1 = 22 := ⟨by decide +kernel, rfl⟩
theorem dCT_hasGlobal_22 : decode b_CT_hasGlobal 22 = .ok (.iload_n 2, 1) ∧ 22 + 1 = 23 := ⟨by decide +kernel, rfl⟩
theorem dCT_hasGlobal_23 : decode b_CT_hasGlobal 23 = .ok (.invokevirtual 71, 3) ∧ 23 + 3 = 26 := ⟨by decide +kernel, rfl⟩
theorem dCT_hasGlobal_26 : decode b_CT_hasGlobal 26 = .ok (.ifCond .eq (5), 3) ∧ 26 + 3 = 29 ∧ ((26 : Nat) : Int) + (5) = ((31 : Nat) : Int) := ⟨by decide +kernel, rfl, by decide⟩
theorem dCT_hasGlobal_29 : decode b_CT_hasGlobal 29 = .ok (.iconst 1, 1) ∧ 29 + 1 = 30 := ⟨by decide +kernel, rfl⟩
theorem dCT_hasGlobal_30 : decode b_CT_hasGlobal 30 = .ok (.ireturn, 1) ∧ 30 + 1 = 31 := ⟨by decide +kernel, rfl⟩
theorem dCT_hasGlobal_31 : decode b_CT_hasGlobal 31 = .ok (.iinc 3 (1), 3) ∧ 31 + 3 = 34 := ⟨by decide +kernel, rfl⟩
theorem dCT_hasGlobal_34 : decode b_CT_hasGlobal 34 = .ok (.goto (-32), 3) ∧ 34 + 3 = 37 ∧ ((34 : Nat) : Int) + (-32) = ((2 : Nat) : Int) := ⟨by decide +kernel, rfl, by decide⟩
theorem dCT_hasGlobal_37 : decode b_CT_hasGlobal 37 = .ok (.iconst 0, 1) ∧ 37 + 1 = 38 := ⟨by decide +kernel, rfl⟩
theorem dCT_hasGlobal_38 : decode b_CT_hasGlobal 38 = .ok (.ireturn, 1) ∧ 38 + 1 = 39 := ⟨by decide +kernel, rfl⟩
theorem dOF_symbol_0 : decode b_OF_symbol 0 = .ok (.aload_n 0, 1) ∧ 0 + 1 = 1 := ⟨by decide +kernel, rfl⟩
theorem dOF_symbol_1 : decode b_OF_symbol 1 = .ok (.getfield 67, 3) ∧ 1 + 3 = 4 := ⟨by decide +kernel, rfl⟩
theorem dOF_symbol_4 : decode b_OF_symbol 4 = .ok (.istore 6, 2) ∧ 4 + 2 = 6 := ⟨by decide +kernel, rfl⟩
theorem dOF_symbol_6 : decode b_OF_symbol 6 = .ok (.aload_n 0, 1) ∧ 6 + 1 = 7 := ⟨by decide +kernel, rfl⟩
theorem dOF_symbol_7 : decode b_OF_symbol 7 = .ok (.iconst 0, 1) ∧ 7 + 1 = 8 := ⟨by decide +kernel, rfl⟩
theorem dOF_symbol_8 : decode b_OF_symbol 8 = .ok (.putfield 67, 3) ∧ 8 + 3 = 11 := ⟨by decide +kernel, rfl⟩
theorem dOF_symbol_11 : decode b_OF_symbol 11 = .ok (.iload 6, 2) ∧ 11 + 2 = 13 := ⟨by decide +kernel, rfl⟩
theorem dOF_symbol_13 : decode b_OF_symbol 13 = .ok (.ifCond .eq (29), 3) ∧ 13 + 3 = 16 ∧ ((13 : Nat) : Int) + (29) = ((42 : Nat) : Int) := ⟨by decide +kernel, rfl, by decide⟩
theorem dOF_symbol_16 : decode b_OF_symbol 16 = .ok (.iload_n 1, 1) ∧ 16 + 1 = 17 := ⟨by decide +kernel, rfl⟩
theorem dOF_symbol_17 : decode b_OF_symbol 17 = .ok (.iconst (-1), 1) ∧ 17 + 1 = 18 := ⟨by decide +kernel, rfl⟩
theorem dOF_symbol_18 : decode b_OF_symbol 18 = .ok (.if_icmp .lt (24), 3) ∧ 18 + 3 = 21 ∧ ((18 : Nat) : Int) + (24) = ((42 : Nat) : Int) := ⟨by decide +kernel, rfl, by decide⟩
theorem dOF_symbol_21 : decode b_OF_symbol 21 = .ok (.iload_n 1, 1) ∧ 21 + 1 = 22 := ⟨by decide +kernel, rfl⟩
theorem dOF_symbol_22 : decode b_OF_symbol 22 = .ok (.iconst 5, 1) ∧ 22 + 1 = 23 := ⟨by decide +kernel, rfl⟩
theorem dOF_symbol_23 : decode b_OF_symbol 23 = .ok (.if_icmp .gt (19), 3) ∧ 23 + 3 = 26 ∧ ((23 : Nat) : Int) + (19) = ((42 : Nat) : Int) := ⟨by decide +kernel, rfl, by decide⟩
theorem dOF_symbol_26 : decode b_OF_symbol 26 = .ok (.iload 4, 2) ∧ 26 + 2 = 28 := ⟨by decide +kernel, rfl⟩
theorem dOF_symbol_28 : decode b_OF_symbol 28 = .ok (.invokestatic 93, 3) ∧ 28 + 3 = 31 := ⟨by decide +kernel, rfl⟩
theorem dOF_symbol_31 : decode b_OF_symbol 31 = .ok (.ifCond .eq (11), 3) ∧ 31 + 3 = 34 ∧ ((31 : Nat) : Int) + (11) = ((42 : Nat) : Int) := ⟨by decide +kernel, rfl, by decide⟩
theorem dOF_symbol_34 : decode b_OF_symbol 34 = .ok (.iload 5, 2) ∧ 34 + 2 = 36 := ⟨by decide +kernel, rfl⟩
theorem dOF_symbol_36 : decode b_OF_symbol 36 = .ok (.invokestatic 93, 3) ∧ 36 + 3 = 39 := ⟨by decide +kernel, rfl⟩
theorem dOF_symbol_39 : decode b_OF_symbol 39 = .ok (.ifCond .ne (5), 3) ∧ 39 + 3 = 42 ∧ ((39 : Nat) : Int) + (5) = ((44 : Nat) : Int) := ⟨by decide +kernel, rfl, by decide⟩
theorem dOF_symbol_42 : decode b_OF_symbol 42 = .ok (.iconst (-1), 1) ∧ 42 + 1 = 43 := ⟨by decide +kernel, rfl⟩
theorem dOF_symbol_43 : decode b_OF_symbol 43 = .ok (.ireturn, 1) ∧ 43 + 1 = 44 := ⟨by decide +kernel, rfl⟩
theorem dOF_symbol_44 : decode b_OF_symbol 44 = .ok (.iload_n 1, 1) ∧ 44 + 1 = 45 := ⟨by decide +kernel, rfl⟩
theorem dOF_symbol_45 : decode b_OF_symbol 45 = .ok (.iload_n 2, 1) ∧ 45 + 1 = 46 := ⟨by decide +kernel, rfl⟩
theorem dOF_symbol_46 : decode b_OF_symbol 46 = .ok (.iload_n 3, 1) ∧ 46 + 1 = 47 := ⟨by decide +kernel, rfl⟩
theorem dOF_symbol_47 : decode b_OF_symbol 47 = .ok (.iload 4, 2) ∧ 47 + 2 = 49 := ⟨by decide +kernel, rfl⟩
theorem dOF_symbol_49 : decode b_OF_symbol 49 = .ok (.ldc2_w 96, 3) ∧ 49 + 3 = 52 := ⟨by decide +kernel, rfl⟩
theorem dOF_symbol_52 : decode b_OF_symbol 52 = .ok (.invokestatic 98, 3) ∧ 52 + 3 = 55 := ⟨by decide +kernel, rfl⟩
theorem dOF_symbol_55 : decode b_OF_symbol 55 = .ok (.iconst (-1), 1) ∧ 55 + 1 = 56 := ⟨by decide +kernel, rfl⟩
theorem dOF_symbol_56 : decode b_OF_symbol 56 = .ok (.if_icmp .eq (5), 3) ∧ 56 + 3 = 59 ∧ ((56 : Nat) : Int) + (5) = ((61 : Nat) : Int) := ⟨by decide +kernel, rfl, by decide⟩
theorem dOF_symbol_59 : decode b_OF_symbol 59 = .ok (.iconst (-1), 1) ∧ 59 + 1 = 60 := ⟨by decide +kernel, rfl⟩
theorem dOF_symbol_60 : decode b_OF_symbol 60 = .ok (.ireturn, 1) ∧ 60 + 1 = 61 := ⟨by decide +kernel, rfl⟩
theorem dOF_symbol_61 : decode b_OF_symbol 61 = .ok (.iload 4, 2) ∧ 61 + 2 = 63 := ⟨by decide +kernel, rfl⟩
theorem dOF_symbol_63 : decode b_OF_symbol 63 = .ok (.ifCond .eq (21), 3) ∧ 63 + 3 = 66 ∧ ((63 : Nat) : Int) + (21) = ((84 : Nat) : Int) := ⟨by decide +kernel, rfl, by decide⟩
theorem dOF_symbol_66 : decode b_OF_symbol 66 = .ok (.aload_n 0, 1) ∧ 66 + 1 = 67 := ⟨by decide +kernel, rfl⟩
theorem dOF_symbol_67 : decode b_OF_symbol 67 = .ok (.getfield 12, 3) ∧ 67 + 3 = 70 := ⟨by decide +kernel, rfl⟩
theorem dOF_symbol_70 : decode b_OF_symbol 70 = .ok (.aload_n 0, 1) ∧ 70 + 1 = 71 := ⟨by decide +kernel, rfl⟩
theorem dOF_symbol_71 : decode b_OF_symbol 71 = .ok (.getfield 60, 3) ∧ 71 + 3 = 74 := ⟨by decide +kernel, rfl⟩
theorem dOF_symbol_74 : decode b_OF_symbol 74 = .ok (.iload 6, 2) ∧ 74 + 2 = 76 := ⟨by decide +kernel, rfl⟩
theorem dOF_symbol_76 : decode b_OF_symbol 76 = .ok (.invokevirtual 102, 3) ∧ 76 + 3 = 79 := ⟨by decide +kernel, rfl⟩
theorem dOF_symbol_79 : decode b_OF_symbol 79 = .ok (.ifCond .eq (5), 3) ∧ 79 + 3 = 82 ∧ ((79 : Nat) : Int) + (5) = ((84 : Nat) : Int) := ⟨by decide +kernel, rfl, by decide⟩
theorem dOF_symbol_82 : decode b_OF_symbol 82 = .ok (.iconst (-1), 1) ∧ 82 + 1 = 83 := ⟨by decide +kernel, rfl⟩
theorem dOF_symbol_83 : decode b_OF_symbol 83 = .ok (.ireturn, 1) ∧ 83 + 1 = 84 := ⟨by decide +kernel, rfl⟩
theorem dOF_symbol_84 : decode b_OF_symbol 84 = .ok (.aload_n 0, 1) ∧ 84 + 1 = 85 := ⟨by decide +kernel, rfl⟩
theorem dOF_symbol_85 : decode b_OF_symbol 85 = .ok (.getfield 12, 3) ∧ 85 + 3 = 88 := ⟨by decide +kernel, rfl⟩
theorem dOF_symbol_88 : decode b_OF_symbol 88 = .ok (.aload_n 0, 1) ∧ 88 + 1 = 89 := ⟨by decide +kernel, rfl⟩
theorem dOF_symbol_89 : decode b_OF_symbol 89 = .ok (.getfield 60, 3) ∧ 89 + 3 = 92 := ⟨by decide +kernel, rfl⟩
theorem dOF_symbol_92 : decode b_OF_symbol 92 = .ok (.iconst 0, 1) ∧ 92 + 1 = 93 := ⟨by decide +kernel, rfl⟩
theorem dOF_symbol_93 : decode b_OF_symbol 93 = .ok (.iload 6, 2) ∧ 93 + 2 = 95 := ⟨by decide +kernel, rfl⟩
theorem dOF_symbol_95 : decode b_OF_symbol 95 = .ok (.invokevirtual 106, 3) ∧ 95 + 3 = 98 := ⟨by decide +kernel, rfl⟩
theorem dOF_symbol_98 : decode b_OF_symbol 98 = .ok (.istore 7, 2) ∧ 98 + 2 = 100 := ⟨by decide +kernel, rfl⟩
theorem dOF_symbol_100 : decode b_OF_symbol 100 = .ok (.aload_n 0, 1) ∧ 100 + 1 = 101 := ⟨by decide +kernel, rfl⟩
theorem dOF_symbol_101 : decode b_OF_symbol 101 = .ok (.getfield 12, 3) ∧ 101 + 3 = 104 := ⟨by decide +kernel, rfl⟩
theorem dOF_symbol_104 : decode b_OF_symbol 104 = .ok (.iload 7, 2) ∧ 104 + 2 = 106 := ⟨by decide +kernel, rfl⟩
theorem dOF_symbol_106 : decode b_OF_symbol 106 = .ok (.iload_n 1, 1) ∧ 106 + 1 = 107 := ⟨by decide +kernel, rfl⟩
theorem dOF_symbol_107 : decode b_OF_symbol 107 = .ok (.iload_n 2, 1) ∧ 107 + 1 = 108 := ⟨by decide +kernel, rfl⟩
theorem dOF_symbol_108 : decode b_OF_symbol 108 = .ok (.iload_n 3, 1) ∧ 108 + 1 = 109 := ⟨by decide +kernel, rfl⟩
theorem dOF_symbol_109 : decode b_OF_symbol 109 = .ok (.iload 4, 2) ∧ 109 + 2 = 111 := ⟨by decide +kernel, rfl⟩
theorem dOF_symbol_111 : decode b_OF_symbol 111 = .ok (.iload 5, 2) ∧ 111 + 2 = 113 := ⟨by decide +kernel, rfl⟩
theorem dOF_symbol_113 : decode b_OF_symbol 113 = .ok (.invokevirtual 110, 3) ∧ 113 + 3 = 116 := ⟨by decide +kernel, rfl⟩
theorem dOF_symbol_116 : decode b_OF_symbol 116 = .ok (.iload 7, 2) ∧ 116 + 2 = 118 := ⟨by decide +kernel, rfl⟩
theorem dOF_symbol_118 : decode b_OF_symbol 118 = .ok (.ireturn, 1) ∧ 118 + 1 = 119 := ⟨by decide +kernel, rfl⟩
theorem dOF_widthOf_0 : decode b_OF_widthOf 0 = .ok (.iload_n 0, 1) ∧ 0 + 1 = 1 := ⟨by decide +kernel, rfl⟩
theorem dOF_widthOf_1 : decode b_OF_widthOf 1 = .ok (.tableswitch (232) (1) (51) #[225, 232, 232, 232, 232, 232, 232, 232, 232, 232, 232, 232, 232, 232, 232, 225, 225, 232, 227, 232, 232, 232, 225, 225, 225, 225, 225, 225, 232, 232, 232, 232, 221, 223, 225, 232, 221, 223, 225, 232, 232, 232, 230, 223, 223, 232, 232, 232, 232, 232, 219], 219) ∧ True := ⟨by decide +kernel, trivial⟩
theorem dOF_widthOf_220 : decode b_OF_widthOf 220 = .ok (.iconst 0, 1) ∧ 220 + 1 = 221 := ⟨by decide +kernel, rfl⟩
theorem dOF_widthOf_221 : decode b_OF_widthOf 221 = .ok (.ireturn, 1) ∧ 221 + 1 = 222 := ⟨by decide +kernel, rfl⟩
theorem dOF_widthOf_222 : decode b_OF_widthOf 222 = .ok (.iconst 1, 1) ∧ 222 + 1 = 223 := ⟨by decide +kernel, rfl⟩
theorem dOF_widthOf_223 : decode b_OF_widthOf 223 = .ok (.ireturn, 1) ∧ 223 + 1 = 224 := ⟨by decide +kernel, rfl⟩
theorem dOF_widthOf_224 : decode b_OF_widthOf 224 = .ok (.iconst 2, 1) ∧ 224 + 1 = 225 := ⟨by decide +kernel, rfl⟩
theorem dOF_widthOf_225 : decode b_OF_widthOf 225 = .ok (.ireturn, 1) ∧ 225 + 1 = 226 := ⟨by decide +kernel, rfl⟩
theorem dOF_widthOf_226 : decode b_OF_widthOf 226 = .ok (.iconst 4, 1) ∧ 226 + 1 = 227 := ⟨by decide +kernel, rfl⟩
theorem dOF_widthOf_227 : decode b_OF_widthOf 227 = .ok (.ireturn, 1) ∧ 227 + 1 = 228 := ⟨by decide +kernel, rfl⟩
theorem dOF_widthOf_228 : decode b_OF_widthOf 228 = .ok (.bipush (8), 2) ∧ 228 + 2 = 230 := ⟨by decide +kernel, rfl⟩
theorem dOF_widthOf_230 : decode b_OF_widthOf 230 = .ok (.ireturn, 1) ∧ 230 + 1 = 231 := ⟨by decide +kernel, rfl⟩
theorem dOF_widthOf_231 : decode b_OF_widthOf 231 = .ok (.iload_n 1, 1) ∧ 231 + 1 = 232 := ⟨by decide +kernel, rfl⟩
theorem dOF_widthOf_232 : decode b_OF_widthOf 232 = .ok (.ireturn, 1) ∧ 232 + 1 = 233 := ⟨by decide +kernel, rfl⟩
theorem dOF_widthOf_233 : decode b_OF_widthOf 233 = .ok (.iconst (-1), 1) ∧ 233 + 1 = 234 := ⟨by decide +kernel, rfl⟩
theorem dOF_widthOf_234 : decode b_OF_widthOf 234 = .ok (.ireturn, 1) ∧ 234 + 1 = 235 := ⟨by decide +kernel, rfl⟩
theorem dOF_kindMayBeIn_0 : decode b_OF_kindMayBeIn 0 = .ok (.iload_n 1, 1) ∧ 0 + 1 = 1 := ⟨by decide +kernel, rfl⟩
theorem dOF_kindMayBeIn_1 : decode b_OF_kindMayBeIn 1 = .ok (.lookupswitch (82) #[(1, 67), (33, 67), (34, 67), (35, 67), (37, 67), (38, 67), (39, 67)], 67) ∧ True := ⟨by decide +kernel, trivial⟩
theorem dOF_kindMayBeIn_68 : decode b_OF_kindMayBeIn 68 = .ok (.iload_n 0, 1) ∧ 68 + 1 = 69 := ⟨by decide +kernel, rfl⟩
theorem dOF_kindMayBeIn_69 : decode b_OF_kindMayBeIn 69 = .ok (.ifCond .lt (12), 3) ∧ 69 + 3 = 72 ∧ ((69 : Nat) : Int) + (12) = ((81 : Nat) : Int) := ⟨by decide +kernel, rfl, by decide⟩
theorem dOF_kindMayBeIn_72 : decode b_OF_kindMayBeIn 72 = .ok (.iload_n 0, 1) ∧ 72 + 1 = 73 := ⟨by decide +kernel, rfl⟩
theorem dOF_kindMayBeIn_73 : decode b_OF_kindMayBeIn 73 = .ok (.iconst 2, 1) ∧ 73 + 1 = 74 := ⟨by decide +kernel, rfl⟩
theorem dOF_kindMayBeIn_74 : decode b_OF_kindMayBeIn 74 = .ok (.if_icmp .gt (7), 3) ∧ 74 + 3 = 77 ∧ ((74 : Nat) : Int) + (7) = ((81 : Nat) : Int) := ⟨by decide +kernel, rfl, by decide⟩
theorem dOF_kindMayBeIn_77 : decode b_OF_kindMayBeIn 77 = .ok (.iconst 1, 1) ∧ 77 + 1 = 78 := ⟨by decide +kernel, rfl⟩
theorem dOF_kindMayBeIn_78 : decode b_OF_kindMayBeIn 78 = .ok (.goto (4), 3) ∧ 78 + 3 = 81 ∧ ((78 : Nat) : Int) + (4) = ((82 : Nat) : Int) := ⟨by decide +kernel, rfl, by decide⟩
theorem dOF_kindMayBeIn_81 : decode b_OF_kindMayBeIn 81 = .ok (.iconst 0, 1) ∧ 81 + 1 = 82 := ⟨by decide +kernel, rfl⟩
theorem dOF_kindMayBeIn_82 : decode b_OF_kindMayBeIn 82 = .ok (.ireturn, 1) ∧ 82 + 1 = 83 := ⟨by decide +kernel, rfl⟩
theorem dOF_kindMayBeIn_83 : decode b_OF_kindMayBeIn 83 = .ok (.iload_n 0, 1) ∧ 83 + 1 = 84 := ⟨by decide +kernel, rfl⟩
theorem dOF_kindMayBeIn_84 : decode b_OF_kindMayBeIn 84 = .ok (.ifCond .ne (16), 3) ∧ 84 + 3 = 87 ∧ ((84 : Nat) : Int) + (16) = ((100 : Nat) : Int) := ⟨by decide +kernel, rfl, by decide⟩
theorem dOF_kindMayBeIn_87 : decode b_OF_kindMayBeIn 87 = .ok (.iload_n 1, 1) ∧ 87 + 1 = 88 := ⟨by decide +kernel, rfl⟩
theorem dOF_kindMayBeIn_88 : decode b_OF_kindMayBeIn 88 = .ok (.iconst 0, 1) ∧ 88 + 1 = 89 := ⟨by decide +kernel, rfl⟩
theorem dOF_kindMayBeIn_89 : decode b_OF_kindMayBeIn 89 = .ok (.invokestatic 200, 3) ∧ 89 + 3 = 92 := ⟨by decide +kernel, rfl⟩
theorem dOF_kindMayBeIn_92 : decode b_OF_kindMayBeIn 92 = .ok (.iconst (-1), 1) ∧ 92 + 1 = 93 := ⟨by decide +kernel, rfl⟩
theorem dOF_kindMayBeIn_93 : decode b_OF_kindMayBeIn 93 = .ok (.if_icmp .eq (7), 3) ∧ 93 + 3 = 96 ∧ ((93 : Nat) : Int) + (7) = ((100 : Nat) : Int) := ⟨by decide +kernel, rfl, by decide⟩
theorem dOF_kindMayBeIn_96 : decode b_OF_kindMayBeIn 96 = .ok (.iconst 1, 1) ∧ 96 + 1 = 97 := ⟨by decide +kernel, rfl⟩
theorem dOF_kindMayBeIn_97 : decode b_OF_kindMayBeIn 97 = .ok (.goto (4), 3) ∧ 97 + 3 = 100 ∧ ((97 : Nat) : Int) + (4) = ((101 : Nat) : Int) := ⟨by decide +kernel, rfl, by decide⟩
theorem dOF_kindMayBeIn_100 : decode b_OF_kindMayBeIn 100 = .ok (.iconst 0, 1) ∧ 100 + 1 = 101 := ⟨by decide +kernel, rfl⟩
theorem dOF_kindMayBeIn_101 : decode b_OF_kindMayBeIn 101 = .ok (.ireturn, 1) ∧ 101 + 1 = 102 := ⟨by decide +kernel, rfl⟩
theorem dOF_addendMayBe_0 : decode b_OF_addendMayBe 0 = .ok (.iload_n 0, 1) ∧ 0 + 1 = 1 := ⟨by decide +kernel, rfl⟩
theorem dOF_addendMayBe_1 : decode b_OF_addendMayBe 1 = .ok (.bipush (43), 2) ∧ 1 + 2 = 3 := ⟨by decide +kernel, rfl⟩
theorem dOF_addendMayBe_3 : decode b_OF_addendMayBe 3 = .ok (.if_icmp .ne (19), 3) ∧ 3 + 3 = 6 ∧ ((3 : Nat) : Int) + (19) = ((22 : Nat) : Int) := ⟨by decide +kernel, rfl, by decide⟩
theorem dOF_addendMayBe_6 : decode b_OF_addendMayBe 6 = .ok (.iload_n 1, 1) ∧ 6 + 1 = 7 := ⟨by decide +kernel, rfl⟩
theorem dOF_addendMayBe_7 : decode b_OF_addendMayBe 7 = .ok (.ifCond .lt (19), 3) ∧ 7 + 3 = 10 ∧ ((7 : Nat) : Int) + (19) = ((26 : Nat) : Int) := ⟨by decide +kernel, rfl, by decide⟩
theorem dOF_addendMayBe_10 : decode b_OF_addendMayBe 10 = .ok (.iload_n 1, 1) ∧ 10 + 1 = 11 := ⟨by decide +kernel, rfl⟩
theorem dOF_addendMayBe_11 : decode b_OF_addendMayBe 11 = .ok (.bipush (62), 2) ∧ 11 + 2 = 13 := ⟨by decide +kernel, rfl⟩
theorem dOF_addendMayBe_13 : decode b_OF_addendMayBe 13 = .ok (.if_icmp .gt (13), 3) ∧ 13 + 3 = 16 ∧ ((13 : Nat) : Int) + (13) = ((26 : Nat) : Int) := ⟨by decide +kernel, rfl, by decide⟩
theorem dOF_addendMayBe_16 : decode b_OF_addendMayBe 16 = .ok (.iload_n 1, 1) ∧ 16 + 1 = 17 := ⟨by decide +kernel, rfl⟩
theorem dOF_addendMayBe_17 : decode b_OF_addendMayBe 17 = .ok (.iconst 1, 1) ∧ 17 + 1 = 18 := ⟨by decide +kernel, rfl⟩
theorem dOF_addendMayBe_18 : decode b_OF_addendMayBe 18 = .ok (.iand, 1) ∧ 18 + 1 = 19 := ⟨by decide +kernel, rfl⟩
theorem dOF_addendMayBe_19 : decode b_OF_addendMayBe 19 = .ok (.ifCond .ne (7), 3) ∧ 19 + 3 = 22 ∧ ((19 : Nat) : Int) + (7) = ((26 : Nat) : Int) := ⟨by decide +kernel, rfl, by decide⟩
theorem dOF_addendMayBe_22 : decode b_OF_addendMayBe 22 = .ok (.iconst 1, 1) ∧ 22 + 1 = 23 := ⟨by decide +kernel, rfl⟩
theorem dOF_addendMayBe_23 : decode b_OF_addendMayBe 23 = .ok (.goto (4), 3) ∧ 23 + 3 = 26 ∧ ((23 : Nat) : Int) + (4) = ((27 : Nat) : Int) := ⟨by decide +kernel, rfl, by decide⟩
theorem dOF_addendMayBe_26 : decode b_OF_addendMayBe 26 = .ok (.iconst 0, 1) ∧ 26 + 1 = 27 := ⟨by decide +kernel, rfl⟩
theorem dOF_addendMayBe_27 : decode b_OF_addendMayBe 27 = .ok (.ireturn, 1) ∧ 27 + 1 = 28 := ⟨by decide +kernel, rfl⟩
theorem dOF_hasSymbol_0 : decode b_OF_hasSymbol 0 = .ok (.iload_n 0, 1) ∧ 0 + 1 = 1 := ⟨by decide +kernel, rfl⟩
theorem dOF_hasSymbol_1 : decode b_OF_hasSymbol 1 = .ok (.bipush (43), 2) ∧ 1 + 2 = 3 := ⟨by decide +kernel, rfl⟩
theorem dOF_hasSymbol_3 : decode b_OF_hasSymbol 3 = .ok (.if_icmp .eq (13), 3) ∧ 3 + 3 = 6 ∧ ((3 : Nat) : Int) + (13) = ((16 : Nat) : Int) := ⟨by decide +kernel, rfl, by decide⟩
theorem dOF_hasSymbol_6 : decode b_OF_hasSymbol 6 = .ok (.iload_n 0, 1) ∧ 6 + 1 = 7 := ⟨by decide +kernel, rfl⟩
theorem dOF_hasSymbol_7 : decode b_OF_hasSymbol 7 = .ok (.bipush (51), 2) ∧ 7 + 2 = 9 := ⟨by decide +kernel, rfl⟩
theorem dOF_hasSymbol_9 : decode b_OF_hasSymbol 9 = .ok (.if_icmp .eq (7), 3) ∧ 9 + 3 = 12 ∧ ((9 : Nat) : Int) + (7) = ((16 : Nat) : Int) := ⟨by decide +kernel, rfl, by decide⟩
theorem dOF_hasSymbol_12 : decode b_OF_hasSymbol 12 = .ok (.iconst 1, 1) ∧ 12 + 1 = 13 := ⟨by decide +kernel, rfl⟩
theorem dOF_hasSymbol_13 : decode b_OF_hasSymbol 13 = .ok (.goto (4), 3) ∧ 13 + 3 = 16 ∧ ((13 : Nat) : Int) + (4) = ((17 : Nat) : Int) := ⟨by decide +kernel, rfl, by decide⟩
theorem dOF_hasSymbol_16 : decode b_OF_hasSymbol 16 = .ok (.iconst 0, 1) ∧ 16 + 1 = 17 := ⟨by decide +kernel, rfl⟩
theorem dOF_hasSymbol_17 : decode b_OF_hasSymbol 17 = .ok (.ireturn, 1) ∧ 17 + 1 = 18 := ⟨by decide +kernel, rfl⟩
theorem dCT_addRelocation_0 : decode b_CT_addRelocation 0 = .ok (.aload_n 0, 1) ∧ 0 + 1 = 1 := ⟨by decide +kernel, rfl⟩
theorem dCT_addRelocation_1 : decode b_CT_addRelocation 1 = .ok (.getfield 47, 3) ∧ 1 + 3 = 4 := ⟨by decide +kernel, rfl⟩
theorem dCT_addRelocation_4 : decode b_CT_addRelocation 4 = .ok (.ifCond .lt (13), 3) ∧ 4 + 3 = 7 ∧ ((4 : Nat) : Int) + (13) = ((17 : Nat) : Int) := ⟨by decide +kernel, rfl, by decide⟩
theorem dCT_addRelocation_7 : decode b_CT_addRelocation 7 = .ok (.aload_n 0, 1) ∧ 7 + 1 = 8 := ⟨by decide +kernel, rfl⟩
theorem dCT_addRelocation_8 : decode b_CT_addRelocation 8 = .ok (.getfield 47, 3) ∧ 8 + 3 = 11 := ⟨by decide +kernel, rfl⟩
theorem dCT_addRelocation_11 : decode b_CT_addRelocation 11 = .ok (.sipush (300), 3) ∧ 11 + 3 = 14 := ⟨by decide +kernel, rfl⟩
theorem dCT_addRelocation_14 : decode b_CT_addRelocation 14 = .ok (.if_icmp .lt (5), 3) ∧ 14 + 3 = 17 ∧ ((14 : Nat) : Int) + (5) = ((19 : Nat) : Int) := ⟨by decide +kernel, rfl, by decide⟩
theorem dCT_addRelocation_17 : decode b_CT_addRelocation 17 = .ok (.iconst (-1), 1) ∧ 17 + 1 = 18 := ⟨by decide +kernel, rfl⟩
theorem dCT_addRelocation_18 : decode b_CT_addRelocation 18 = .ok (.ireturn, 1) ∧ 18 + 1 = 19 := ⟨by decide +kernel, rfl⟩
theorem dCT_addRelocation_19 : decode b_CT_addRelocation 19 = .ok (.aload_n 0, 1) ∧ 19 + 1 = 20 := ⟨by decide +kernel, rfl⟩
theorem dCT_addRelocation_20 : decode b_CT_addRelocation 20 = .ok (.getfield 47, 3) ∧ 20 + 3 = 23 := ⟨by decide +kernel, rfl⟩
theorem dCT_addRelocation_23 : decode b_CT_addRelocation 23 = .ok (.istore 6, 2) ∧ 23 + 2 = 25 := ⟨by decide +kernel, rfl⟩
theorem dCT_addRelocation_25 : decode b_CT_addRelocation 25 = .ok (.aload_n 0, 1) ∧ 25 + 1 = 26 := ⟨by decide +kernel, rfl⟩
theorem dCT_addRelocation_26 : decode b_CT_addRelocation 26 = .ok (.dup, 1) ∧ 26 + 1 = 27 := ⟨by decide +kernel, rfl⟩
theorem dCT_addRelocation_27 : decode b_CT_addRelocation 27 = .ok (.getfield 47, 3) ∧ 27 + 3 = 30 := ⟨by decide +kernel, rfl⟩
theorem dCT_addRelocation_30 : decode b_CT_addRelocation 30 = .ok (.iconst 1, 1) ∧ 30 + 1 = 31 := ⟨by decide +kernel, rfl⟩
theorem dCT_addRelocation_31 : decode b_CT_addRelocation 31 = .ok (.iadd, 1) ∧ 31 + 1 = 32 := ⟨by decide +kernel, rfl⟩
theorem dCT_addRelocation_32 : decode b_CT_addRelocation 32 = .ok (.putfield 47, 3) ∧ 32 + 3 = 35 := ⟨by decide +kernel, rfl⟩
theorem dCT_addRelocation_35 : decode b_CT_addRelocation 35 = .ok (.iload 6, 2) ∧ 35 + 2 = 37 := ⟨by decide +kernel, rfl⟩
theorem dCT_addRelocation_37 : decode b_CT_addRelocation 37 = .ok (.iconst 5, 1) ∧ 37 + 1 = 38 := ⟨by decide +kernel, rfl⟩
theorem dCT_addRelocation_38 : decode b_CT_addRelocation 38 = .ok (.imul, 1) ∧ 38 + 1 = 39 := ⟨by decide +kernel, rfl⟩
theorem dCT_addRelocation_39 : decode b_CT_addRelocation 39 = .ok (.istore 7, 2) ∧ 39 + 2 = 41 := ⟨by decide +kernel, rfl⟩
theorem dCT_addRelocation_41 : decode b_CT_addRelocation 41 = .ok (.aload_n 0, 1) ∧ 41 + 1 = 42 := ⟨by decide +kernel, rfl⟩
theorem dCT_addRelocation_42 : decode b_CT_addRelocation 42 = .ok (.getfield 31, 3) ∧ 42 + 3 = 45 := ⟨by decide +kernel, rfl⟩
theorem dCT_addRelocation_45 : decode b_CT_addRelocation 45 = .ok (.iload 7, 2) ∧ 45 + 2 = 47 := ⟨by decide +kernel, rfl⟩
theorem dCT_addRelocation_47 : decode b_CT_addRelocation 47 = .ok (.iconst 0, 1) ∧ 47 + 1 = 48 := ⟨by decide +kernel, rfl⟩
theorem dCT_addRelocation_48 : decode b_CT_addRelocation 48 = .ok (.iadd, 1) ∧ 48 + 1 = 49 := ⟨by decide +kernel, rfl⟩
theorem dCT_addRelocation_49 : decode b_CT_addRelocation 49 = .ok (.iload_n 1, 1) ∧ 49 + 1 = 50 := ⟨by decide +kernel, rfl⟩
theorem dCT_addRelocation_50 : decode b_CT_addRelocation 50 = .ok (.iastore, 1) ∧ 50 + 1 = 51 := ⟨by decide +kernel, rfl⟩
theorem dCT_addRelocation_51 : decode b_CT_addRelocation 51 = .ok (.aload_n 0, 1) ∧ 51 + 1 = 52 := ⟨by decide +kernel, rfl⟩
theorem dCT_addRelocation_52 : decode b_CT_addRelocation 52 = .ok (.getfield 31, 3) ∧ 52 + 3 = 55 := ⟨by decide +kernel, rfl⟩
theorem dCT_addRelocation_55 : decode b_CT_addRelocation 55 = .ok (.iload 7, 2) ∧ 55 + 2 = 57 := ⟨by decide +kernel, rfl⟩
theorem dCT_addRelocation_57 : decode b_CT_addRelocation 57 = .ok (.iconst 1, 1) ∧ 57 + 1 = 58 := ⟨by decide +kernel, rfl⟩
theorem dCT_addRelocation_58 : decode b_CT_addRelocation 58 = .ok (.iadd, 1) ∧ 58 + 1 = 59 := ⟨by decide +kernel, rfl⟩
theorem dCT_addRelocation_59 : decode b_CT_addRelocation 59 = .ok (.iload_n 2, 1) ∧ 59 + 1 = 60 := ⟨by decide +kernel, rfl⟩
theorem dCT_addRelocation_60 : decode b_CT_addRelocation 60 = .ok (.iastore, 1) ∧ 60 + 1 = 61 := ⟨by decide +kernel, rfl⟩
theorem dCT_addRelocation_61 : decode b_CT_addRelocation 61 = .ok (.aload_n 0, 1) ∧ 61 + 1 = 62 := ⟨by decide +kernel, rfl⟩
theorem dCT_addRelocation_62 : decode b_CT_addRelocation 62 = .ok (.getfield 31, 3) ∧ 62 + 3 = 65 := ⟨by decide +kernel, rfl⟩
theorem dCT_addRelocation_65 : decode b_CT_addRelocation 65 = .ok (.iload 7, 2) ∧ 65 + 2 = 67 := ⟨by decide +kernel, rfl⟩
theorem dCT_addRelocation_67 : decode b_CT_addRelocation 67 = .ok (.iconst 2, 1) ∧ 67 + 1 = 68 := ⟨by decide +kernel, rfl⟩
theorem dCT_addRelocation_68 : decode b_CT_addRelocation 68 = .ok (.iadd, 1) ∧ 68 + 1 = 69 := ⟨by decide +kernel, rfl⟩
theorem dCT_addRelocation_69 : decode b_CT_addRelocation 69 = .ok (.iload_n 3, 1) ∧ 69 + 1 = 70 := ⟨by decide +kernel, rfl⟩
theorem dCT_addRelocation_70 : decode b_CT_addRelocation 70 = .ok (.iastore, 1) ∧ 70 + 1 = 71 := ⟨by decide +kernel, rfl⟩
theorem dCT_addRelocation_71 : decode b_CT_addRelocation 71 = .ok (.aload_n 0, 1) ∧ 71 + 1 = 72 := ⟨by decide +kernel, rfl⟩
theorem dCT_addRelocation_72 : decode b_CT_addRelocation 72 = .ok (.getfield 31, 3) ∧ 72 + 3 = 75 := ⟨by decide +kernel, rfl⟩
theorem dCT_addRelocation_75 : decode b_CT_addRelocation 75 = .ok (.iload 7, 2) ∧ 75 + 2 = 77 := ⟨by decide +kernel, rfl⟩
theorem dCT_addRelocation_77 : decode b_CT_addRelocation 77 = .ok (.iconst 3, 1) ∧ 77 + 1 = 78 := ⟨by decide +kernel, rfl⟩
theorem dCT_addRelocation_78 : decode b_CT_addRelocation 78 = .ok (.iadd, 1) ∧ 78 + 1 = 79 := ⟨by decide +kernel, rfl⟩
theorem dCT_addRelocation_79 : decode b_CT_addRelocation 79 = .ok (.iload 4, 2) ∧ 79 + 2 = 81 := ⟨by decide +kernel, rfl⟩
theorem dCT_addRelocation_81 : decode b_CT_addRelocation 81 = .ok (.iastore, 1) ∧ 81 + 1 = 82 := ⟨by decide +kernel, rfl⟩
theorem dCT_addRelocation_82 : decode b_CT_addRelocation 82 = .ok (.aload_n 0, 1) ∧ 82 + 1 = 83 := ⟨by decide +kernel, rfl⟩
theorem dCT_addRelocation_83 : decode b_CT_addRelocation 83 = .ok (.getfield 31, 3) ∧ 83 + 3 = 86 := ⟨by decide +kernel, rfl⟩
theorem dCT_addRelocation_86 : decode b_CT_addRelocation 86 = .ok (.iload 7, 2) ∧ 86 + 2 = 88 := ⟨by decide +kernel, rfl⟩
theorem dCT_addRelocation_88 : decode b_CT_addRelocation 88 = .ok (.iconst 4, 1) ∧ 88 + 1 = 89 := ⟨by decide +kernel, rfl⟩
theorem dCT_addRelocation_89 : decode b_CT_addRelocation 89 = .ok (.iadd, 1) ∧ 89 + 1 = 90 := ⟨by decide +kernel, rfl⟩
theorem dCT_addRelocation_90 : decode b_CT_addRelocation 90 = .ok (.iload 5, 2) ∧ 90 + 2 = 92 := ⟨by decide +kernel, rfl⟩
theorem dCT_addRelocation_92 : decode b_CT_addRelocation 92 = .ok (.iastore, 1) ∧ 92 + 1 = 93 := ⟨by decide +kernel, rfl⟩
theorem dCT_addRelocation_93 : decode b_CT_addRelocation 93 = .ok (.iload 6, 2) ∧ 93 + 2 = 95 := ⟨by decide +kernel, rfl⟩
theorem dCT_addRelocation_95 : decode b_CT_addRelocation 95 = .ok (.ireturn, 1) ∧ 95 + 1 = 96 := ⟨by decide +kernel, rfl⟩
theorem dOF_relocation_0 : decode b_OF_relocation 0 = .ok (.iload_n 1, 1) ∧ 0 + 1 = 1 := ⟨by decide +kernel, rfl⟩
theorem dOF_relocation_1 : decode b_OF_relocation 1 = .ok (.iload_n 3, 1) ∧ 1 + 1 = 2 := ⟨by decide +kernel, rfl⟩
theorem dOF_relocation_2 : decode b_OF_relocation 2 = .ok (.invokestatic 114, 3) ∧ 2 + 3 = 5 := ⟨by decide +kernel, rfl⟩
theorem dOF_relocation_5 : decode b_OF_relocation 5 = .ok (.ifCond .eq (16), 3) ∧ 5 + 3 = 8 ∧ ((5 : Nat) : Int) + (16) = ((21 : Nat) : Int) := ⟨by decide +kernel, rfl, by decide⟩
theorem dOF_relocation_8 : decode b_OF_relocation 8 = .ok (.iload_n 3, 1) ∧ 8 + 1 = 9 := ⟨by decide +kernel, rfl⟩
theorem dOF_relocation_9 : decode b_OF_relocation 9 = .ok (.iload 5, 2) ∧ 9 + 2 = 11 := ⟨by decide +kernel, rfl⟩
theorem dOF_relocation_11 : decode b_OF_relocation 11 = .ok (.invokestatic 118, 3) ∧ 11 + 3 = 14 := ⟨by decide +kernel, rfl⟩
theorem dOF_relocation_14 : decode b_OF_relocation 14 = .ok (.ifCond .eq (7), 3) ∧ 14 + 3 = 17 ∧ ((14 : Nat) : Int) + (7) = ((21 : Nat) : Int) := ⟨by decide +kernel, rfl, by decide⟩
theorem dOF_relocation_17 : decode b_OF_relocation 17 = .ok (.iload_n 2, 1) ∧ 17 + 1 = 18 := ⟨by decide +kernel, rfl⟩
theorem dOF_relocation_18 : decode b_OF_relocation 18 = .ok (.ifCond .ge (5), 3) ∧ 18 + 3 = 21 ∧ ((18 : Nat) : Int) + (5) = ((23 : Nat) : Int) := ⟨by decide +kernel, rfl, by decide⟩
theorem dOF_relocation_21 : decode b_OF_relocation 21 = .ok (.iconst (-1), 1) ∧ 21 + 1 = 22 := ⟨by decide +kernel, rfl⟩
theorem dOF_relocation_22 : decode b_OF_relocation 22 = .ok (.ireturn, 1) ∧ 22 + 1 = 23 := ⟨by decide +kernel, rfl⟩
theorem dOF_relocation_23 : decode b_OF_relocation 23 = .ok (.iload 4, 2) ∧ 23 + 2 = 25 := ⟨by decide +kernel, rfl⟩
theorem dOF_relocation_25 : decode b_OF_relocation 25 = .ok (.iconst (-1), 1) ∧ 25 + 1 = 26 := ⟨by decide +kernel, rfl⟩
theorem dOF_relocation_26 : decode b_OF_relocation 26 = .ok (.if_icmp .lt (33), 3) ∧ 26 + 3 = 29 ∧ ((26 : Nat) : Int) + (33) = ((59 : Nat) : Int) := ⟨by decide +kernel, rfl, by decide⟩
theorem dOF_relocation_29 : decode b_OF_relocation 29 = .ok (.iload 4, 2) ∧ 29 + 2 = 31 := ⟨by decide +kernel, rfl⟩
theorem dOF_relocation_31 : decode b_OF_relocation 31 = .ok (.aload_n 0, 1) ∧ 31 + 1 = 32 := ⟨by decide +kernel, rfl⟩
theorem dOF_relocation_32 : decode b_OF_relocation 32 = .ok (.getfield 12, 3) ∧ 32 + 3 = 35 := ⟨by decide +kernel, rfl⟩
theorem dOF_relocation_35 : decode b_OF_relocation 35 = .ok (.getfield 121, 3) ∧ 35 + 3 = 38 := ⟨by decide +kernel, rfl⟩
theorem dOF_relocation_38 : decode b_OF_relocation 38 = .ok (.if_icmp .ge (21), 3) ∧ 38 + 3 = 41 ∧ ((38 : Nat) : Int) + (21) = ((59 : Nat) : Int) := ⟨by decide +kernel, rfl, by decide⟩
theorem dOF_relocation_41 : decode b_OF_relocation 41 = .ok (.iload_n 3, 1) ∧ 41 + 1 = 42 := ⟨by decide +kernel, rfl⟩
theorem dOF_relocation_42 : decode b_OF_relocation 42 = .ok (.invokestatic 124, 3) ∧ 42 + 3 = 45 := ⟨by decide +kernel, rfl⟩
theorem dOF_relocation_45 : decode b_OF_relocation 45 = .ok (.iload 4, 2) ∧ 45 + 2 = 47 := ⟨by decide +kernel, rfl⟩
theorem dOF_relocation_47 : decode b_OF_relocation 47 = .ok (.iconst (-1), 1) ∧ 47 + 1 = 48 := ⟨by decide +kernel, rfl⟩
theorem dOF_relocation_48 : decode b_OF_relocation 48 = .ok (.if_icmp .eq (7), 3) ∧ 48 + 3 = 51 ∧ ((48 : Nat) : Int) + (7) = ((55 : Nat) : Int) := ⟨by decide +kernel, rfl, by decide⟩
theorem dOF_relocation_51 : decode b_OF_relocation 51 = .ok (.iconst 1, 1) ∧ 51 + 1 = 52 := ⟨by decide +kernel, rfl⟩
theorem dOF_relocation_52 : decode b_OF_relocation 52 = .ok (.goto (4), 3) ∧ 52 + 3 = 55 ∧ ((52 : Nat) : Int) + (4) = ((56 : Nat) : Int) := ⟨by decide +kernel, rfl, by decide⟩
theorem dOF_relocation_55 : decode b_OF_relocation 55 = .ok (.iconst 0, 1) ∧ 55 + 1 = 56 := ⟨by decide +kernel, rfl⟩
theorem dOF_relocation_56 : decode b_OF_relocation 56 = .ok (.if_icmp .eq (5), 3) ∧ 56 + 3 = 59 ∧ ((56 : Nat) : Int) + (5) = ((61 : Nat) : Int) := ⟨by decide +kernel, rfl, by decide⟩
theorem dOF_relocation_59 : decode b_OF_relocation 59 = .ok (.iconst (-1), 1) ∧ 59 + 1 = 60 := ⟨by decide +kernel, rfl⟩
theorem dOF_relocation_60 : decode b_OF_relocation 60 = .ok (.ireturn, 1) ∧ 60 + 1 = 61 := ⟨by decide +kernel, rfl⟩
theorem dOF_relocation_61 : decode b_OF_relocation 61 = .ok (.aload_n 0, 1) ∧ 61 + 1 = 62 := ⟨by decide +kernel, rfl⟩
theorem dOF_relocation_62 : decode b_OF_relocation 62 = .ok (.getfield 12, 3) ∧ 62 + 3 = 65 := ⟨by decide +kernel, rfl⟩
theorem dOF_relocation_65 : decode b_OF_relocation 65 = .ok (.iload_n 1, 1) ∧ 65 + 1 = 66 := ⟨by decide +kernel, rfl⟩
theorem dOF_relocation_66 : decode b_OF_relocation 66 = .ok (.iload_n 2, 1) ∧ 66 + 1 = 67 := ⟨by decide +kernel, rfl⟩
theorem dOF_relocation_67 : decode b_OF_relocation 67 = .ok (.iload_n 3, 1) ∧ 67 + 1 = 68 := ⟨by decide +kernel, rfl⟩
theorem dOF_relocation_68 : decode b_OF_relocation 68 = .ok (.iload 4, 2) ∧ 68 + 2 = 70 := ⟨by decide +kernel, rfl⟩
theorem dOF_relocation_70 : decode b_OF_relocation 70 = .ok (.iload 5, 2) ∧ 70 + 2 = 72 := ⟨by decide +kernel, rfl⟩
theorem dOF_relocation_72 : decode b_OF_relocation 72 = .ok (.invokevirtual 127, 3) ∧ 72 + 3 = 75 := ⟨by decide +kernel, rfl⟩
theorem dOF_relocation_75 : decode b_OF_relocation 75 = .ok (.ireturn, 1) ∧ 75 + 1 = 76 := ⟨by decide +kernel, rfl⟩
theorem dCT_startGoesBeyond_0 : decode b_CT_startGoesBeyond 0 = .ok (.aload_n 0, 1) ∧ 0 + 1 = 1 := ⟨by decide +kernel, rfl⟩
theorem dCT_startGoesBeyond_1 : decode b_CT_startGoesBeyond 1 = .ok (.invokevirtual 81, 3) ∧ 1 + 3 = 4 := ⟨by decide +kernel, rfl⟩
theorem dCT_startGoesBeyond_4 : decode b_CT_startGoesBeyond 4 = .ok (.aload_n 0, 1) ∧ 4 + 1 = 5 := ⟨by decide +kernel, rfl⟩
theorem dCT_startGoesBeyond_5 : decode b_CT_startGoesBeyond 5 = .ok (.getfield 15, 3) ∧ 5 + 3 = 8 := ⟨by decide +kernel, rfl⟩
theorem dCT_startGoesBeyond_8 : decode b_CT_startGoesBeyond 8 = .ok (.iconst 0, 1) ∧ 8 + 1 = 9 := ⟨by decide +kernel, rfl⟩
theorem dCT_startGoesBeyond_9 : decode b_CT_startGoesBeyond 9 = .ok (.iaload, 1) ∧ 9 + 1 = 10 := ⟨by decide +kernel, rfl⟩
theorem dCT_startGoesBeyond_10 : decode b_CT_startGoesBeyond 10 = .ok (.if_icmp .lt (7), 3) ∧ 10 + 3 = 13 ∧ ((10 : Nat) : Int) + (7) = ((17 : Nat) : Int) := ⟨by decide +kernel, rfl, by decide⟩
theorem dCT_startGoesBeyond_13 : decode b_CT_startGoesBeyond 13 = .ok (.iconst 1, 1) ∧ 13 + 1 = 14 := ⟨by decide +kernel, rfl⟩
theorem dCT_startGoesBeyond_14 : decode b_CT_startGoesBeyond 14 = .ok (.goto (4), 3) ∧ 14 + 3 = 17 ∧ ((14 : Nat) : Int) + (4) = ((18 : Nat) : Int) := ⟨by decide +kernel, rfl, by decide⟩
theorem dCT_startGoesBeyond_17 : decode b_CT_startGoesBeyond 17 = .ok (.iconst 0, 1) ∧ 17 + 1 = 18 := ⟨by decide +kernel, rfl⟩
theorem dCT_startGoesBeyond_18 : decode b_CT_startGoesBeyond 18 = .ok (.ireturn, 1) ∧ 18 + 1 = 19 := ⟨by decide +kernel, rfl⟩
theorem dCT_symbolGoesBeyond_0 : decode b_CT_symbolGoesBeyond 0 = .ok (.iconst 0, 1) ∧ 0 + 1 = 1 := ⟨by decide +kernel, rfl⟩
theorem dCT_symbolGoesBeyond_1 : decode b_CT_symbolGoesBeyond 1 = .ok (.istore_n 1, 1) ∧ 1 + 1 = 2 := ⟨by decide +kernel, rfl⟩
theorem dCT_symbolGoesBeyond_2 : decode b_CT_symbolGoesBeyond 2 = .ok (.iload_n 1, 1) ∧ 2 + 1 = 3 := ⟨by decide +kernel, rfl⟩
theorem dCT_symbolGoesBeyond_3 : decode b_CT_symbolGoesBeyond 3 = .ok (.aload_n 0, 1) ∧ 3 + 1 = 4 := ⟨by decide +kernel, rfl⟩
theorem dCT_symbolGoesBeyond_4 : decode b_CT_symbolGoesBeyond 4 = .ok (.getfield 44, 3) ∧ 4 + 3 = 7 := ⟨by decide +kernel, rfl⟩
theorem dCT_symbolGoesBeyond_7 : decode b_CT_symbolGoesBeyond 7 = .ok (.if_icmp .ge (53), 3) ∧ 7 + 3 = 10 ∧ ((7 : Nat) : Int) + (53) = ((60 : Nat) : Int) := ⟨by decide +kernel, rfl, by decide⟩
theorem dCT_symbolGoesBeyond_10 : decode b_CT_symbolGoesBeyond 10 = .ok (.aload_n 0, 1) ∧ 10 + 1 = 11 := ⟨by decide +kernel, rfl⟩
theorem dCT_symbolGoesBeyond_11 : decode b_CT_symbolGoesBeyond 11 = .ok (.iload_n 1, 1) ∧ 11 + 1 = 12 := ⟨by decide +kernel, rfl⟩
theorem dCT_symbolGoesBeyond_12 : decode b_CT_symbolGoesBeyond 12 = .ok (.iconst 0, 1) ∧ 12 + 1 = 13 := ⟨by decide +kernel, rfl⟩
theorem dCT_symbolGoesBeyond_13 : decode b_CT_symbolGoesBeyond 13 = .ok (.invokevirtual 68, 3) ∧ 13 + 3 = 16 := ⟨by decide +kernel, rfl⟩
theorem dCT_symbolGoesBeyond_16 : decode b_CT_symbolGoesBeyond 16 = .ok (.istore_n 2, 1) ∧ 16 + 1 = 17 := ⟨by decide +kernel, rfl⟩
theorem dCT_symbolGoesBeyond_17 : decode b_CT_symbolGoesBeyond 17 = .ok (.iload_n 2, 1) ∧ 17 + 1 = 18 := ⟨by decide +kernel, rfl⟩
theorem dCT_symbolGoesBeyond_18 : decode b_CT_symbolGoesBeyond 18 = .ok (.ifCond .lt (36), 3) ∧ 18 + 3 = 21 ∧ ((18 : Nat) : Int) + (36) = ((54 : Nat) : Int) := ⟨by decide +kernel, rfl, by decide⟩
theorem dCT_symbolGoesBeyond_21 : decode b_CT_symbolGoesBeyond 21 = .ok (.iload_n 2, 1) ∧ 21 + 1 = 22 := ⟨by decide +kernel, rfl⟩
theorem dCT_symbolGoesBeyond_22 : decode b_CT_symbolGoesBeyond 22 = .ok (.iconst 3, 1) ∧ 22 + 1 = 23 := ⟨by decide +kernel, rfl⟩
theorem dCT_symbolGoesBeyond_23 : decode b_CT_symbolGoesBeyond 23 = .ok (.if_icmp .gt (31), 3) ∧ 23 + 3 = 26 ∧ ((23 : Nat) : Int) + (31) = ((54 : Nat) : Int) := ⟨by decide +kernel, rfl, by decide⟩
theorem dCT_symbolGoesBeyond_26 : decode b_CT_symbolGoesBeyond 26 = .ok (.aload_n 0, 1) ∧ 26 + 1 = 27 := ⟨by decide +kernel, rfl⟩
theorem dCT_symbolGoesBeyond_27 : decode b_CT_symbolGoesBeyond 27 = .ok (.iload_n 1, 1) ∧ 27 + 1 = 28 := ⟨by decide +kernel, rfl⟩
theorem dCT_symbolGoesBeyond_28 : decode b_CT_symbolGoesBeyond 28 = .ok (.iconst 1, 1) ∧ 28 + 1 = 29 := ⟨by decide +kernel, rfl⟩
theorem dCT_symbolGoesBeyond_29 : decode b_CT_symbolGoesBeyond 29 = .ok (.invokevirtual 68, 3) ∧ 29 + 3 = 32 := ⟨by decide +kernel, rfl⟩
theorem dCT_symbolGoesBeyond_32 : decode b_CT_symbolGoesBeyond 32 = .ok (.i2l, 1) ∧ 32 + 1 = 33 := ⟨by decide +kernel, rfl⟩
theorem dCT_symbolGoesBeyond_33 : decode b_CT_symbolGoesBeyond 33 = .ok (.aload_n 0, 1) ∧ 33 + 1 = 34 := ⟨by decide +kernel, rfl⟩
theorem dCT_symbolGoesBeyond_34 : decode b_CT_symbolGoesBeyond 34 = .ok (.iload_n 1, 1) ∧ 34 + 1 = 35 := ⟨by decide +kernel, rfl⟩
theorem dCT_symbolGoesBeyond_35 : decode b_CT_symbolGoesBeyond 35 = .ok (.iconst 2, 1) ∧ 35 + 1 = 36 := ⟨by decide +kernel, rfl⟩
theorem dCT_symbolGoesBeyond_36 : decode b_CT_symbolGoesBeyond 36 = .ok (.invokevirtual 68, 3) ∧ 36 + 3 = 39 := ⟨by decide +kernel, rfl⟩
theorem dCT_symbolGoesBeyond_39 : decode b_CT_symbolGoesBeyond 39 = .ok (.i2l, 1) ∧ 39 + 1 = 40 := ⟨by decide +kernel, rfl⟩
theorem dCT_symbolGoesBeyond_40 : decode b_CT_symbolGoesBeyond 40 = .ok (.ladd, 1) ∧ 40 + 1 = 41 := ⟨by decide +kernel, rfl⟩
theorem dCT_symbolGoesBeyond_41 : decode b_CT_symbolGoesBeyond 41 = .ok (.aload_n 0, 1) ∧ 41 + 1 = 42 := ⟨by decide +kernel, rfl⟩
theorem dCT_symbolGoesBeyond_42 : decode b_CT_symbolGoesBeyond 42 = .ok (.getfield 15, 3) ∧ 42 + 3 = 45 := ⟨by decide +kernel, rfl⟩
theorem dCT_symbolGoesBeyond_45 : decode b_CT_symbolGoesBeyond 45 = .ok (.iload_n 2, 1) ∧ 45 + 1 = 46 := ⟨by decide +kernel, rfl⟩
theorem dCT_symbolGoesBeyond_46 : decode b_CT_symbolGoesBeyond 46 = .ok (.iaload, 1) ∧ 46 + 1 = 47 := ⟨by decide +kernel, rfl⟩
theorem dCT_symbolGoesBeyond_47 : decode b_CT_symbolGoesBeyond 47 = .ok (.i2l, 1) ∧ 47 + 1 = 48 := ⟨by decide +kernel, rfl⟩
theorem dCT_symbolGoesBeyond_48 : decode b_CT_symbolGoesBeyond 48 = .ok (.lcmp, 1) ∧ 48 + 1 = 49 := ⟨by decide +kernel, rfl⟩
theorem dCT_symbolGoesBeyond_49 : decode b_CT_symbolGoesBeyond 49 = .ok (.ifCond .le (5), 3) ∧ 49 + 3 = 52 ∧ ((49 : Nat) : Int) + (5) = ((54 : Nat) : Int) := ⟨by decide +kernel, rfl, by decide⟩
theorem dCT_symbolGoesBeyond_52 : decode b_CT_symbolGoesBeyond 52 = .ok (.iconst 1, 1) ∧ 52 + 1 = 53 := ⟨by decide +kernel, rfl⟩
theorem dCT_symbolGoesBeyond_53 : decode b_CT_symbolGoesBeyond 53 = .ok (.ireturn, 1) ∧ 53 + 1 = 54 := ⟨by decide +kernel, rfl⟩
theorem dCT_symbolGoesBeyond_54 : decode b_CT_symbolGoesBeyond 54 = .ok (.iinc 1 (1), 3) ∧ 54 + 3 = 57 := ⟨by decide +kernel, rfl⟩
theorem dCT_symbolGoesBeyond_57 : decode b_CT_symbolGoesBeyond 57 = .ok (.goto (-55), 3) ∧ 57 + 3 = 60 ∧ ((57 : Nat) : Int) + (-55) = ((2 : Nat) : Int) := ⟨by decide +kernel, rfl, by decide⟩
theorem dCT_symbolGoesBeyond_60 : decode b_CT_symbolGoesBeyond 60 = .ok (.iconst 0, 1) ∧ 60 + 1 = 61 := ⟨by decide +kernel, rfl⟩
theorem dCT_symbolGoesBeyond_61 : decode b_CT_symbolGoesBeyond 61 = .ok (.ireturn, 1) ∧ 61 + 1 = 62 := ⟨by decide +kernel, rfl⟩
theorem dCT_relocationFact_0 : decode b_CT_relocationFact 0 = .ok (.iload_n 1, 1) ∧ 0 + 1 = 1 := ⟨by decide +kernel, rfl⟩
theorem dCT_relocationFact_1 : decode b_CT_relocationFact 1 = .ok (.ifCond .lt (20), 3) ∧ 1 + 3 = 4 ∧ ((1 : Nat) : Int) + (20) = ((21 : Nat) : Int) := ⟨by decide +kernel, rfl, by decide⟩
theorem dCT_relocationFact_4 : decode b_CT_relocationFact 4 = .ok (.iload_n 1, 1) ∧ 4 + 1 = 5 := ⟨by decide +kernel, rfl⟩
theorem dCT_relocationFact_5 : decode b_CT_relocationFact 5 = .ok (.aload_n 0, 1) ∧ 5 + 1 = 6 := ⟨by decide +kernel, rfl⟩
theorem dCT_relocationFact_6 : decode b_CT_relocationFact 6 = .ok (.getfield 47, 3) ∧ 6 + 3 = 9 := ⟨by decide +kernel, rfl⟩
theorem dCT_relocationFact_9 : decode b_CT_relocationFact 9 = .ok (.if_icmp .ge (12), 3) ∧ 9 + 3 = 12 ∧ ((9 : Nat) : Int) + (12) = ((21 : Nat) : Int) := ⟨by decide +kernel, rfl, by decide⟩
theorem dCT_relocationFact_12 : decode b_CT_relocationFact 12 = .ok (.iload_n 2, 1) ∧ 12 + 1 = 13 := ⟨by decide +kernel, rfl⟩
theorem dCT_relocationFact_13 : decode b_CT_relocationFact 13 = .ok (.ifCond .lt (8), 3) ∧ 13 + 3 = 16 ∧ ((13 : Nat) : Int) + (8) = ((21 : Nat) : Int) := ⟨by decide +kernel, rfl, by decide⟩
theorem dCT_relocationFact_16 : decode b_CT_relocationFact 16 = .ok (.iload_n 2, 1) ∧ 16 + 1 = 17 := ⟨by decide +kernel, rfl⟩
theorem dCT_relocationFact_17 : decode b_CT_relocationFact 17 = .ok (.iconst 5, 1) ∧ 17 + 1 = 18 := ⟨by decide +kernel, rfl⟩
theorem dCT_relocationFact_18 : decode b_CT_relocationFact 18 = .ok (.if_icmp .lt (5), 3) ∧ 18 + 3 = 21 ∧ ((18 : Nat) : Int) + (5) = ((23 : Nat) : Int) := ⟨by decide +kernel, rfl, by decide⟩
theorem dCT_relocationFact_21 : decode b_CT_relocationFact 21 = .ok (.iconst (-1), 1) ∧ 21 + 1 = 22 := ⟨by decide +kernel, rfl⟩
theorem dCT_relocationFact_22 : decode b_CT_relocationFact 22 = .ok (.ireturn, 1) ∧ 22 + 1 = 23 := ⟨by decide +kernel, rfl⟩
theorem dCT_relocationFact_23 : decode b_CT_relocationFact 23 = .ok (.aload_n 0, 1) ∧ 23 + 1 = 24 := ⟨by decide +kernel, rfl⟩
theorem dCT_relocationFact_24 : decode b_CT_relocationFact 24 = .ok (.getfield 31, 3) ∧ 24 + 3 = 27 := ⟨by decide +kernel, rfl⟩
theorem dCT_relocationFact_27 : decode b_CT_relocationFact 27 = .ok (.iload_n 1, 1) ∧ 27 + 1 = 28 := ⟨by decide +kernel, rfl⟩
theorem dCT_relocationFact_28 : decode b_CT_relocationFact 28 = .ok (.iconst 5, 1) ∧ 28 + 1 = 29 := ⟨by decide +kernel, rfl⟩
theorem dCT_relocationFact_29 : decode b_CT_relocationFact 29 = .ok (.imul, 1) ∧ 29 + 1 = 30 := ⟨by decide +kernel, rfl⟩
theorem dCT_relocationFact_30 : decode b_CT_relocationFact 30 = .ok (.iload_n 2, 1) ∧ 30 + 1 = 31 := ⟨by decide +kernel, rfl⟩
theorem dCT_relocationFact_31 : decode b_CT_relocationFact 31 = .ok (.iadd, 1) ∧ 31 + 1 = 32 := ⟨by decide +kernel, rfl⟩
theorem dCT_relocationFact_32 : decode b_CT_relocationFact 32 = .ok (.iaload, 1) ∧ 32 + 1 = 33 := ⟨by decide +kernel, rfl⟩
theorem dCT_relocationFact_33 : decode b_CT_relocationFact 33 = .ok (.ireturn, 1) ∧ 33 + 1 = 34 := ⟨by decide +kernel, rfl⟩
theorem dCT_relocationGoesBeyond_0 : decode b_CT_relocationGoesBeyond 0 = .ok (.iconst 0, 1) ∧ 0 + 1 = 1 := ⟨by decide +kernel, rfl⟩
theorem dCT_relocationGoesBeyond_1 : decode b_CT_relocationGoesBeyond 1 = .ok (.istore_n 1, 1) ∧ 1 + 1 = 2 := ⟨by decide +kernel, rfl⟩
theorem dCT_relocationGoesBeyond_2 : decode b_CT_relocationGoesBeyond 2 = .ok (.iload_n 1, 1) ∧ 2 + 1 = 3 := ⟨by decide +kernel, rfl⟩
theorem dCT_relocationGoesBeyond_3 : decode b_CT_relocationGoesBeyond 3 = .ok (.aload_n 0, 1) ∧ 3 + 1 = 4 := ⟨by decide +kernel, rfl⟩
theorem dCT_relocationGoesBeyond_4 : decode b_CT_relocationGoesBeyond 4 = .ok (.getfield 47, 3) ∧ 4 + 3 = 7 := ⟨by decide +kernel, rfl⟩
theorem dCT_relocationGoesBeyond_7 : decode b_CT_relocationGoesBeyond 7 = .ok (.if_icmp .ge (64), 3) ∧ 7 + 3 = 10 ∧ ((7 : Nat) : Int) + (64) = ((71 : Nat) : Int) := ⟨by decide +kernel, rfl, by decide⟩
theorem dCT_relocationGoesBeyond_10 : decode b_CT_relocationGoesBeyond 10 = .ok (.aload_n 0, 1) ∧ 10 + 1 = 11 := ⟨by decide +kernel, rfl⟩
theorem dCT_relocationGoesBeyond_11 : decode b_CT_relocationGoesBeyond 11 = .ok (.iload_n 1, 1) ∧ 11 + 1 = 12 := ⟨by decide +kernel, rfl⟩
theorem dCT_relocationGoesBeyond_12 : decode b_CT_relocationGoesBeyond 12 = .ok (.iconst 0, 1) ∧ 12 + 1 = 13 := ⟨by decide +kernel, rfl⟩
theorem dCT_relocationGoesBeyond_13 : decode b_CT_relocationGoesBeyond 13 = .ok (.invokevirtual 78, 3) ∧ 13 + 3 = 16 := ⟨by decide +kernel, rfl⟩
theorem dCT_relocationGoesBeyond_16 : decode b_CT_relocationGoesBeyond 16 = .ok (.istore_n 2, 1) ∧ 16 + 1 = 17 := ⟨by decide +kernel, rfl⟩
theorem dCT_relocationGoesBeyond_17 : decode b_CT_relocationGoesBeyond 17 = .ok (.aload_n 0, 1) ∧ 17 + 1 = 18 := ⟨by decide +kernel, rfl⟩
theorem dCT_relocationGoesBeyond_18 : decode b_CT_relocationGoesBeyond 18 = .ok (.iload_n 1, 1) ∧ 18 + 1 = 19 := ⟨by decide +kernel, rfl⟩
theorem dCT_relocationGoesBeyond_19 : decode b_CT_relocationGoesBeyond 19 = .ok (.iconst 2, 1) ∧ 19 + 1 = 20 := ⟨by decide +kernel, rfl⟩
theorem dCT_relocationGoesBeyond_20 : decode b_CT_relocationGoesBeyond 20 = .ok (.invokevirtual 78, 3) ∧ 20 + 3 = 23 := ⟨by decide +kernel, rfl⟩
theorem dCT_relocationGoesBeyond_23 : decode b_CT_relocationGoesBeyond 23 = .ok (.aload_n 0, 1) ∧ 23 + 1 = 24 := ⟨by decide +kernel, rfl⟩
theorem dCT_relocationGoesBeyond_24 : decode b_CT_relocationGoesBeyond 24 = .ok (.iload_n 1, 1) ∧ 24 + 1 = 25 := ⟨by decide +kernel, rfl⟩
theorem dCT_relocationGoesBeyond_25 : decode b_CT_relocationGoesBeyond 25 = .ok (.iconst 4, 1) ∧ 25 + 1 = 26 := ⟨by decide +kernel, rfl⟩
theorem dCT_relocationGoesBeyond_26 : decode b_CT_relocationGoesBeyond 26 = .ok (.invokevirtual 78, 3) ∧ 26 + 3 = 29 := ⟨by decide +kernel, rfl⟩
theorem dCT_relocationGoesBeyond_29 : decode b_CT_relocationGoesBeyond 29 = .ok (.invokestatic 85, 3) ∧ 29 + 3 = 32 := ⟨by decide +kernel, rfl⟩
theorem dCT_relocationGoesBeyond_32 : decode b_CT_relocationGoesBeyond 32 = .ok (.istore_n 3, 1) ∧ 32 + 1 = 33 := ⟨by decide +kernel, rfl⟩
theorem dCT_relocationGoesBeyond_33 : decode b_CT_relocationGoesBeyond 33 = .ok (.iload_n 2, 1) ∧ 33 + 1 = 34 := ⟨by decide +kernel, rfl⟩
theorem dCT_relocationGoesBeyond_34 : decode b_CT_relocationGoesBeyond 34 = .ok (.ifCond .lt (31), 3) ∧ 34 + 3 = 37 ∧ ((34 : Nat) : Int) + (31) = ((65 : Nat) : Int) := ⟨by decide +kernel, rfl, by decide⟩
theorem dCT_relocationGoesBeyond_37 : decode b_CT_relocationGoesBeyond 37 = .ok (.iload_n 2, 1) ∧ 37 + 1 = 38 := ⟨by decide +kernel, rfl⟩
theorem dCT_relocationGoesBeyond_38 : decode b_CT_relocationGoesBeyond 38 = .ok (.iconst 2, 1) ∧ 38 + 1 = 39 := ⟨by decide +kernel, rfl⟩
theorem dCT_relocationGoesBeyond_39 : decode b_CT_relocationGoesBeyond 39 = .ok (.if_icmp .gt (26), 3) ∧ 39 + 3 = 42 ∧ ((39 : Nat) : Int) + (26) = ((65 : Nat) : Int) := ⟨by decide +kernel, rfl, by decide⟩
theorem dCT_relocationGoesBeyond_42 : decode b_CT_relocationGoesBeyond 42 = .ok (.aload_n 0, 1) ∧ 42 + 1 = 43 := ⟨by decide +kernel, rfl⟩
theorem dCT_relocationGoesBeyond_43 : decode b_CT_relocationGoesBeyond 43 = .ok (.iload_n 1, 1) ∧ 43 + 1 = 44 := ⟨by decide +kernel, rfl⟩
theorem dCT_relocationGoesBeyond_44 : decode b_CT_relocationGoesBeyond 44 = .ok (.iconst 1, 1) ∧ 44 + 1 = 45 := ⟨by decide +kernel, rfl⟩
theorem dCT_relocationGoesBeyond_45 : decode b_CT_relocationGoesBeyond 45 = .ok (.invokevirtual 78, 3) ∧ 45 + 3 = 48 := ⟨by decide +kernel, rfl⟩
theorem dCT_relocationGoesBeyond_48 : decode b_CT_relocationGoesBeyond 48 = .ok (.i2l, 1) ∧ 48 + 1 = 49 := ⟨by decide +kernel, rfl⟩
theorem dCT_relocationGoesBeyond_49 : decode b_CT_relocationGoesBeyond 49 = .ok (.iload_n 3, 1) ∧ 49 + 1 = 50 := ⟨by decide +kernel, rfl⟩
theorem dCT_relocationGoesBeyond_50 : decode b_CT_relocationGoesBeyond 50 = .ok (.i2l, 1) ∧ 50 + 1 = 51 := ⟨by decide +kernel, rfl⟩
theorem dCT_relocationGoesBeyond_51 : decode b_CT_relocationGoesBeyond 51 = .ok (.ladd, 1) ∧ 51 + 1 = 52 := ⟨by decide +kernel, rfl⟩
theorem dCT_relocationGoesBeyond_52 : decode b_CT_relocationGoesBeyond 52 = .ok (.aload_n 0, 1) ∧ 52 + 1 = 53 := ⟨by decide +kernel, rfl⟩
theorem dCT_relocationGoesBeyond_53 : decode b_CT_relocationGoesBeyond 53 = .ok (.getfield 15, 3) ∧ 53 + 3 = 56 := ⟨by decide +kernel, rfl⟩
theorem dCT_relocationGoesBeyond_56 : decode b_CT_relocationGoesBeyond 56 = .ok (.iload_n 2, 1) ∧ 56 + 1 = 57 := ⟨by decide +kernel, rfl⟩
theorem dCT_relocationGoesBeyond_57 : decode b_CT_relocationGoesBeyond 57 = .ok (.iaload, 1) ∧ 57 + 1 = 58 := ⟨by decide +kernel, rfl⟩
theorem dCT_relocationGoesBeyond_58 : decode b_CT_relocationGoesBeyond 58 = .ok (.i2l, 1) ∧ 58 + 1 = 59 := ⟨by decide +kernel, rfl⟩
theorem dCT_relocationGoesBeyond_59 : decode b_CT_relocationGoesBeyond 59 = .ok (.lcmp, 1) ∧ 59 + 1 = 60 := ⟨by decide +kernel, rfl⟩
theorem dCT_relocationGoesBeyond_60 : decode b_CT_relocationGoesBeyond 60 = .ok (.ifCond .le (5), 3) ∧ 60 + 3 = 63 ∧ ((60 : Nat) : Int) + (5) = ((65 : Nat) : Int) := ⟨by decide +kernel, rfl, by decide⟩
theorem dCT_relocationGoesBeyond_63 : decode b_CT_relocationGoesBeyond 63 = .ok (.iconst 1, 1) ∧ 63 + 1 = 64 := ⟨by decide +kernel, rfl⟩
theorem dCT_relocationGoesBeyond_64 : decode b_CT_relocationGoesBeyond 64 = .ok (.ireturn, 1) ∧ 64 + 1 = 65 := ⟨by decide +kernel, rfl⟩
theorem dCT_relocationGoesBeyond_65 : decode b_CT_relocationGoesBeyond 65 = .ok (.iinc 1 (1), 3) ∧ 65 + 3 = 68 := ⟨by decide +kernel, rfl⟩
theorem dCT_relocationGoesBeyond_68 : decode b_CT_relocationGoesBeyond 68 = .ok (.goto (-66), 3) ∧ 68 + 3 = 71 ∧ ((68 : Nat) : Int) + (-66) = ((2 : Nat) : Int) := ⟨by decide +kernel, rfl, by decide⟩
theorem dCT_relocationGoesBeyond_71 : decode b_CT_relocationGoesBeyond 71 = .ok (.iconst 0, 1) ∧ 71 + 1 = 72 := ⟨by decide +kernel, rfl⟩
theorem dCT_relocationGoesBeyond_72 : decode b_CT_relocationGoesBeyond 72 = .ok (.ireturn, 1) ∧ 72 + 1 = 73 := ⟨by decide +kernel, rfl⟩
theorem dWR_giveTurn_0 : decode b_WR_giveTurn 0 = .ok (.iload_n 2, 1) ∧ 0 + 1 = 1 := ⟨by decide +kernel, rfl⟩
theorem dWR_giveTurn_1 : decode b_WR_giveTurn 1 = .ok (.bipush (100), 2) ∧ 1 + 2 = 3 := ⟨by decide +kernel, rfl⟩
theorem dWR_giveTurn_3 : decode b_WR_giveTurn 3 = .ok (.if_icmp .ge (25), 3) ∧ 3 + 3 = 6 ∧ ((3 : Nat) : Int) + (25) = ((28 : Nat) : Int) := ⟨by decide +kernel, rfl, by decide⟩
theorem dWR_giveTurn_6 : decode b_WR_giveTurn 6 = .ok (.iload_n 1, 1) ∧ 6 + 1 = 7 := ⟨by decide +kernel, rfl⟩
theorem dWR_giveTurn_7 : decode b_WR_giveTurn 7 = .ok (.bipush (100), 2) ∧ 7 + 2 = 9 := ⟨by decide +kernel, rfl⟩
theorem dWR_giveTurn_9 : decode b_WR_giveTurn 9 = .ok (.if_icmp .ge (19), 3) ∧ 9 + 3 = 12 ∧ ((9 : Nat) : Int) + (19) = ((28 : Nat) : Int) := ⟨by decide +kernel, rfl, by decide⟩
theorem dWR_giveTurn_12 : decode b_WR_giveTurn 12 = .ok (.aload_n 0, 1) ∧ 12 + 1 = 13 := ⟨by decide +kernel, rfl⟩
theorem dWR_giveTurn_13 : decode b_WR_giveTurn 13 = .ok (.getfield 38, 3) ∧ 13 + 3 = 16 := ⟨by decide +kernel, rfl⟩
theorem dWR_giveTurn_16 : decode b_WR_giveTurn 16 = .ok (.iload_n 2, 1) ∧ 16 + 1 = 17 := ⟨by decide +kernel, rfl⟩
theorem dWR_giveTurn_17 : decode b_WR_giveTurn 17 = .ok (.iload_n 1, 1) ∧ 17 + 1 = 18 := ⟨by decide +kernel, rfl⟩
theorem dWR_giveTurn_18 : decode b_WR_giveTurn 18 = .ok (.iastore, 1) ∧ 18 + 1 = 19 := ⟨by decide +kernel, rfl⟩
theorem dWR_giveTurn_19 : decode b_WR_giveTurn 19 = .ok (.aload_n 0, 1) ∧ 19 + 1 = 20 := ⟨by decide +kernel, rfl⟩
theorem dWR_giveTurn_20 : decode b_WR_giveTurn 20 = .ok (.getfield 41, 3) ∧ 20 + 3 = 23 := ⟨by decide +kernel, rfl⟩
theorem dWR_giveTurn_23 : decode b_WR_giveTurn 23 = .ok (.iload_n 1, 1) ∧ 23 + 1 = 24 := ⟨by decide +kernel, rfl⟩
theorem dWR_giveTurn_24 : decode b_WR_giveTurn 24 = .ok (.iload_n 2, 1) ∧ 24 + 1 = 25 := ⟨by decide +kernel, rfl⟩
theorem dWR_giveTurn_25 : decode b_WR_giveTurn 25 = .ok (.iconst 1, 1) ∧ 25 + 1 = 26 := ⟨by decide +kernel, rfl⟩
theorem dWR_giveTurn_26 : decode b_WR_giveTurn 26 = .ok (.iadd, 1) ∧ 26 + 1 = 27 := ⟨by decide +kernel, rfl⟩
theorem dWR_giveTurn_27 : decode b_WR_giveTurn 27 = .ok (.iastore, 1) ∧ 27 + 1 = 28 := ⟨by decide +kernel, rfl⟩
theorem dWR_giveTurn_28 : decode b_WR_giveTurn 28 = .ok (.return_, 1) ∧ 28 + 1 = 29 := ⟨by decide +kernel, rfl⟩
theorem dWR_orderSymbols_0 : decode b_WR_orderSymbols 0 = .ok (.iconst 0, 1) ∧ 0 + 1 = 1 := ⟨by decide +kernel, rfl⟩
theorem dWR_orderSymbols_1 : decode b_WR_orderSymbols 1 = .ok (.istore_n 1, 1) ∧ 1 + 1 = 2 := ⟨by decide +kernel, rfl⟩
theorem dWR_orderSymbols_2 : decode b_WR_orderSymbols 2 = .ok (.iconst 0, 1) ∧ 2 + 1 = 3 := ⟨by decide +kernel, rfl⟩
theorem dWR_orderSymbols_3 : decode b_WR_orderSymbols 3 = .ok (.istore_n 2, 1) ∧ 3 + 1 = 4 := ⟨by decide +kernel, rfl⟩
theorem dWR_orderSymbols_4 : decode b_WR_orderSymbols 4 = .ok (.iload_n 2, 1) ∧ 4 + 1 = 5 := ⟨by decide +kernel, rfl⟩
theorem dWR_orderSymbols_5 : decode b_WR_orderSymbols 5 = .ok (.aload_n 0, 1) ∧ 5 + 1 = 6 := ⟨by decide +kernel, rfl⟩
theorem dWR_orderSymbols_6 : decode b_WR_orderSymbols 6 = .ok (.getfield 47, 3) ∧ 6 + 3 = 9 := ⟨by decide +kernel, rfl⟩
theorem dWR_orderSymbols_9 : decode b_WR_orderSymbols 9 = .ok (.getfield 104, 3) ∧ 9 + 3 = 12 := ⟨by decide +kernel, rfl⟩
theorem dWR_orderSymbols_12 : decode b_WR_orderSymbols 12 = .ok (.if_icmp .ge (30), 3) ∧ 12 + 3 = 15 ∧ ((12 : Nat) : Int) + (30) = ((42 : Nat) : Int) := ⟨by decide +kernel, rfl, by decide⟩
theorem dWR_orderSymbols_15 : decode b_WR_orderSymbols 15 = .ok (.aload_n 0, 1) ∧ 15 + 1 = 16 := ⟨by decide +kernel, rfl⟩
theorem dWR_orderSymbols_16 : decode b_WR_orderSymbols 16 = .ok (.getfield 47, 3) ∧ 16 + 3 = 19 := ⟨by decide +kernel, rfl⟩
theorem dWR_orderSymbols_19 : decode b_WR_orderSymbols 19 = .ok (.iload_n 2, 1) ∧ 19 + 1 = 20 := ⟨by decide +kernel, rfl⟩
theorem dWR_orderSymbols_20 : decode b_WR_orderSymbols 20 = .ok (.iconst 3, 1) ∧ 20 + 1 = 21 := ⟨by decide +kernel, rfl⟩
theorem dWR_orderSymbols_21 : decode b_WR_orderSymbols 21 = .ok (.invokevirtual 107, 3) ∧ 21 + 3 = 24 := ⟨by decide +kernel, rfl⟩
theorem dWR_orderSymbols_24 : decode b_WR_orderSymbols 24 = .ok (.ifCond .ne (12), 3) ∧ 24 + 3 = 27 ∧ ((24 : Nat) : Int) + (12) = ((36 : Nat) : Int) := ⟨by decide +kernel, rfl, by decide⟩
theorem dWR_orderSymbols_27 : decode b_WR_orderSymbols 27 = .ok (.aload_n 0, 1) ∧ 27 + 1 = 28 := ⟨by decide +kernel, rfl⟩
theorem dWR_orderSymbols_28 : decode b_WR_orderSymbols 28 = .ok (.iload_n 2, 1) ∧ 28 + 1 = 29 := ⟨by decide +kernel, rfl⟩
theorem dWR_orderSymbols_29 : decode b_WR_orderSymbols 29 = .ok (.iload_n 1, 1) ∧ 29 + 1 = 30 := ⟨by decide +kernel, rfl⟩
theorem dWR_orderSymbols_30 : decode b_WR_orderSymbols 30 = .ok (.invokevirtual 111, 3) ∧ 30 + 3 = 33 := ⟨by decide +kernel, rfl⟩
theorem dWR_orderSymbols_33 : decode b_WR_orderSymbols 33 = .ok (.iinc 1 (1), 3) ∧ 33 + 3 = 36 := ⟨by decide +kernel, rfl⟩
theorem dWR_orderSymbols_36 : decode b_WR_orderSymbols 36 = .ok (.iinc 2 (1), 3) ∧ 36 + 3 = 39 := ⟨by decide +kernel, rfl⟩
theorem dWR_orderSymbols_39 : decode b_WR_orderSymbols 39 = .ok (.goto (-35), 3) ∧ 39 + 3 = 42 ∧ ((39 : Nat) : Int) + (-35) = ((4 : Nat) : Int) := ⟨by decide +kernel, rfl, by decide⟩
theorem dWR_orderSymbols_42 : decode b_WR_orderSymbols 42 = .ok (.aload_n 0, 1) ∧ 42 + 1 = 43 := ⟨by decide +kernel, rfl⟩
theorem dWR_orderSymbols_43 : decode b_WR_orderSymbols 43 = .ok (.iload_n 1, 1) ∧ 43 + 1 = 44 := ⟨by decide +kernel, rfl⟩
theorem dWR_orderSymbols_44 : decode b_WR_orderSymbols 44 = .ok (.putfield 115, 3) ∧ 44 + 3 = 47 := ⟨by decide +kernel, rfl⟩
theorem dWR_orderSymbols_47 : decode b_WR_orderSymbols 47 = .ok (.iconst 0, 1) ∧ 47 + 1 = 48 := ⟨by decide +kernel, rfl⟩
theorem dWR_orderSymbols_48 : decode b_WR_orderSymbols 48 = .ok (.istore_n 2, 1) ∧ 48 + 1 = 49 := ⟨by decide +kernel, rfl⟩
theorem dWR_orderSymbols_49 : decode b_WR_orderSymbols 49 = .ok (.iload_n 2, 1) ∧ 49 + 1 = 50 := ⟨by decide +kernel, rfl⟩
theorem dWR_orderSymbols_50 : decode b_WR_orderSymbols 50 = .ok (.aload_n 0, 1) ∧ 50 + 1 = 51 := ⟨by decide +kernel, rfl⟩
theorem dWR_orderSymbols_51 : decode b_WR_orderSymbols 51 = .ok (.getfield 47, 3) ∧ 51 + 3 = 54 := ⟨by decide +kernel, rfl⟩
theorem dWR_orderSymbols_54 : decode b_WR_orderSymbols 54 = .ok (.getfield 104, 3) ∧ 54 + 3 = 57 := ⟨by decide +kernel, rfl⟩
theorem dWR_orderSymbols_57 : decode b_WR_orderSymbols 57 = .ok (.if_icmp .ge (30), 3) ∧ 57 + 3 = 60 ∧ ((57 : Nat) : Int) + (30) = ((87 : Nat) : Int) := ⟨by decide +kernel, rfl, by decide⟩
theorem dWR_orderSymbols_60 : decode b_WR_orderSymbols 60 = .ok (.aload_n 0, 1) ∧ 60 + 1 = 61 := ⟨by decide +kernel, rfl⟩
theorem dWR_orderSymbols_61 : decode b_WR_orderSymbols 61 = .ok (.getfield 47, 3) ∧ 61 + 3 = 64 := ⟨by decide +kernel, rfl⟩
theorem dWR_orderSymbols_64 : decode b_WR_orderSymbols 64 = .ok (.iload_n 2, 1) ∧ 64 + 1 = 65 := ⟨by decide +kernel, rfl⟩
theorem dWR_orderSymbols_65 : decode b_WR_orderSymbols 65 = .ok (.iconst 3, 1) ∧ 65 + 1 = 66 := ⟨by decide +kernel, rfl⟩
theorem dWR_orderSymbols_66 : decode b_WR_orderSymbols 66 = .ok (.invokevirtual 107, 3) ∧ 66 + 3 = 69 := ⟨by decide +kernel, rfl⟩
theorem dWR_orderSymbols_69 : decode b_WR_orderSymbols 69 = .ok (.ifCond .eq (12), 3) ∧ 69 + 3 = 72 ∧ ((69 : Nat) : Int) + (12) = ((81 : Nat) : Int) := ⟨by decide +kernel, rfl, by decide⟩
theorem dWR_orderSymbols_72 : decode b_WR_orderSymbols 72 = .ok (.aload_n 0, 1) ∧ 72 + 1 = 73 := ⟨by decide +kernel, rfl⟩
theorem dWR_orderSymbols_73 : decode b_WR_orderSymbols 73 = .ok (.iload_n 2, 1) ∧ 73 + 1 = 74 := ⟨by decide +kernel, rfl⟩
theorem dWR_orderSymbols_74 : decode b_WR_orderSymbols 74 = .ok (.iload_n 1, 1) ∧ 74 + 1 = 75 := ⟨by decide +kernel, rfl⟩
theorem dWR_orderSymbols_75 : decode b_WR_orderSymbols 75 = .ok (.invokevirtual 111, 3) ∧ 75 + 3 = 78 := ⟨by decide +kernel, rfl⟩
theorem dWR_orderSymbols_78 : decode b_WR_orderSymbols 78 = .ok (.iinc 1 (1), 3) ∧ 78 + 3 = 81 := ⟨by decide +kernel, rfl⟩
theorem dWR_orderSymbols_81 : decode b_WR_orderSymbols 81 = .ok (.iinc 2 (1), 3) ∧ 81 + 3 = 84 := ⟨by decide +kernel, rfl⟩
theorem dWR_orderSymbols_84 : decode b_WR_orderSymbols 84 = .ok (.goto (-35), 3) ∧ 84 + 3 = 87 ∧ ((84 : Nat) : Int) + (-35) = ((49 : Nat) : Int) := ⟨by decide +kernel, rfl, by decide⟩
theorem dWR_orderSymbols_87 : decode b_WR_orderSymbols 87 = .ok (.return_, 1) ∧ 87 + 1 = 88 := ⟨by decide +kernel, rfl⟩
theorem dST_restart_0 : decode b_ST_restart 0 = .ok (.aload_n 0, 1) ∧ 0 + 1 = 1 := ⟨by decide +kernel, rfl⟩
theorem dST_restart_1 : decode b_ST_restart 1 = .ok (.getfield 9, 3) ∧ 1 + 3 = 4 := ⟨by decide +kernel, rfl⟩
theorem dST_restart_4 : decode b_ST_restart 4 = .ok (.iconst 0, 1) ∧ 4 + 1 = 5 := ⟨by decide +kernel, rfl⟩
theorem dST_restart_5 : decode b_ST_restart 5 = .ok (.iconst 0, 1) ∧ 5 + 1 = 6 := ⟨by decide +kernel, rfl⟩
theorem dST_restart_6 : decode b_ST_restart 6 = .ok (.bastore, 1) ∧ 6 + 1 = 7 := ⟨by decide +kernel, rfl⟩
theorem dST_restart_7 : decode b_ST_restart 7 = .ok (.aload_n 0, 1) ∧ 7 + 1 = 8 := ⟨by decide +kernel, rfl⟩
theorem dST_restart_8 : decode b_ST_restart 8 = .ok (.iconst 1, 1) ∧ 8 + 1 = 9 := ⟨by decide +kernel, rfl⟩
theorem dST_restart_9 : decode b_ST_restart 9 = .ok (.putfield 15, 3) ∧ 9 + 3 = 12 := ⟨by decide +kernel, rfl⟩
theorem dST_restart_12 : decode b_ST_restart 12 = .ok (.return_, 1) ∧ 12 + 1 = 13 := ⟨by decide +kernel, rfl⟩
theorem dST_putBehind_0 : decode b_ST_putBehind 0 = .ok (.aload_n 0, 1) ∧ 0 + 1 = 1 := ⟨by decide +kernel, rfl⟩
theorem dST_putBehind_1 : decode b_ST_putBehind 1 = .ok (.getfield 15, 3) ∧ 1 + 3 = 4 := ⟨by decide +kernel, rfl⟩
theorem dST_putBehind_4 : decode b_ST_putBehind 4 = .ok (.iload_n 3, 1) ∧ 4 + 1 = 5 := ⟨by decide +kernel, rfl⟩
theorem dST_putBehind_5 : decode b_ST_putBehind 5 = .ok (.iadd, 1) ∧ 5 + 1 = 6 := ⟨by decide +kernel, rfl⟩
theorem dST_putBehind_6 : decode b_ST_putBehind 6 = .ok (.iconst 1, 1) ∧ 6 + 1 = 7 := ⟨by decide +kernel, rfl⟩
theorem dST_putBehind_7 : decode b_ST_putBehind 7 = .ok (.iadd, 1) ∧ 7 + 1 = 8 := ⟨by decide +kernel, rfl⟩
theorem dST_putBehind_8 : decode b_ST_putBehind 8 = .ok (.sipush (1701), 3) ∧ 8 + 3 = 11 := ⟨by decide +kernel, rfl⟩
theorem dST_putBehind_11 : decode b_ST_putBehind 11 = .ok (.if_icmp .le (5), 3) ∧ 11 + 3 = 14 ∧ ((11 : Nat) : Int) + (5) = ((16 : Nat) : Int) := ⟨by decide +kernel, rfl, by decide⟩
theorem dST_putBehind_14 : decode b_ST_putBehind 14 = .ok (.iconst 0, 1) ∧ 14 + 1 = 15 := ⟨by decide +kernel, rfl⟩
theorem dST_putBehind_15 : decode b_ST_putBehind 15 = .ok (.ireturn, 1) ∧ 15 + 1 = 16 := ⟨by decide +kernel, rfl⟩
theorem dST_putBehind_16 : decode b_ST_putBehind 16 = .ok (.aload_n 0, 1) ∧ 16 + 1 = 17 := ⟨by decide +kernel, rfl⟩
theorem dST_putBehind_17 : decode b_ST_putBehind 17 = .ok (.getfield 15, 3) ∧ 17 + 3 = 20 := ⟨by decide +kernel, rfl⟩
theorem dST_putBehind_20 : decode b_ST_putBehind 20 = .ok (.istore 4, 2) ∧ 20 + 2 = 22 := ⟨by decide +kernel, rfl⟩
theorem dST_putBehind_22 : decode b_ST_putBehind 22 = .ok (.aload_n 1, 1) ∧ 22 + 1 = 23 := ⟨by decide +kernel, rfl⟩
theorem dST_putBehind_23 : decode b_ST_putBehind 23 = .ok (.iload_n 2, 1) ∧ 23 + 1 = 24 := ⟨by decide +kernel, rfl⟩
theorem dST_putBehind_24 : decode b_ST_putBehind 24 = .ok (.aload_n 0, 1) ∧ 24 + 1 = 25 := ⟨by decide +kernel, rfl⟩
theorem dST_putBehind_25 : decode b_ST_putBehind 25 = .ok (.getfield 9, 3) ∧ 25 + 3 = 28 := ⟨by decide +kernel, rfl⟩
theorem dST_putBehind_28 : decode b_ST_putBehind 28 = .ok (.iload 4, 2) ∧ 28 + 2 = 30 := ⟨by decide +kernel, rfl⟩
theorem dST_putBehind_30 : decode b_ST_putBehind 30 = .ok (.iload_n 3, 1) ∧ 30 + 1 = 31 := ⟨by decide +kernel, rfl⟩
theorem dST_putBehind_31 : decode b_ST_putBehind 31 = .ok (.invokestatic 27, 3) ∧ 31 + 3 = 34 := ⟨by decide +kernel, rfl⟩
theorem dST_putBehind_34 : decode b_ST_putBehind 34 = .ok (.aload_n 0, 1) ∧ 34 + 1 = 35 := ⟨by decide +kernel, rfl⟩
theorem dST_putBehind_35 : decode b_ST_putBehind 35 = .ok (.getfield 9, 3) ∧ 35 + 3 = 38 := ⟨by decide +kernel, rfl⟩
theorem dST_putBehind_38 : decode b_ST_putBehind 38 = .ok (.iload 4, 2) ∧ 38 + 2 = 40 := ⟨by decide +kernel, rfl⟩
theorem dST_putBehind_40 : decode b_ST_putBehind 40 = .ok (.iload_n 3, 1) ∧ 40 + 1 = 41 := ⟨by decide +kernel, rfl⟩
theorem dST_putBehind_41 : decode b_ST_putBehind 41 = .ok (.iadd, 1) ∧ 41 + 1 = 42 := ⟨by decide +kernel, rfl⟩
theorem dST_putBehind_42 : decode b_ST_putBehind 42 = .ok (.iconst 0, 1) ∧ 42 + 1 = 43 := ⟨by decide +kernel, rfl⟩
theorem dST_putBehind_43 : decode b_ST_putBehind 43 = .ok (.bastore, 1) ∧ 43 + 1 = 44 := ⟨by decide +kernel, rfl⟩
theorem dST_putBehind_44 : decode b_ST_putBehind 44 = .ok (.aload_n 0, 1) ∧ 44 + 1 = 45 := ⟨by decide +kernel, rfl⟩
theorem dST_putBehind_45 : decode b_ST_putBehind 45 = .ok (.iload 4, 2) ∧ 45 + 2 = 47 := ⟨by decide +kernel, rfl⟩
theorem dST_putBehind_47 : decode b_ST_putBehind 47 = .ok (.iload_n 3, 1) ∧ 47 + 1 = 48 := ⟨by decide +kernel, rfl⟩
theorem dST_putBehind_48 : decode b_ST_putBehind 48 = .ok (.iadd, 1) ∧ 48 + 1 = 49 := ⟨by decide +kernel, rfl⟩
theorem dST_putBehind_49 : decode b_ST_putBehind 49 = .ok (.iconst 1, 1) ∧ 49 + 1 = 50 := ⟨by decide +kernel, rfl⟩
theorem dST_putBehind_50 : decode b_ST_putBehind 50 = .ok (.iadd, 1) ∧ 50 + 1 = 51 := ⟨by decide +kernel, rfl⟩
theorem dST_putBehind_51 : decode b_ST_putBehind 51 = .ok (.putfield 15, 3) ∧ 51 + 3 = 54 := ⟨by decide +kernel, rfl⟩
theorem dST_putBehind_54 : decode b_ST_putBehind 54 = .ok (.iload 4, 2) ∧ 54 + 2 = 56 := ⟨by decide +kernel, rfl⟩
theorem dST_putBehind_56 : decode b_ST_putBehind 56 = .ok (.ireturn, 1) ∧ 56 + 1 = 57 := ⟨by decide +kernel, rfl⟩
theorem dST_standsAt_0 : decode b_ST_standsAt 0 = .ok (.iconst 0, 1) ∧ 0 + 1 = 1 := ⟨by decide +kernel, rfl⟩
theorem dST_standsAt_1 : decode b_ST_standsAt 1 = .ok (.istore 5, 2) ∧ 1 + 2 = 3 := ⟨by decide +kernel, rfl⟩
theorem dST_standsAt_3 : decode b_ST_standsAt 3 = .ok (.iload 5, 2) ∧ 3 + 2 = 5 := ⟨by decide +kernel, rfl⟩
theorem dST_standsAt_5 : decode b_ST_standsAt 5 = .ok (.iload 4, 2) ∧ 5 + 2 = 7 := ⟨by decide +kernel, rfl⟩
theorem dST_standsAt_7 : decode b_ST_standsAt 7 = .ok (.if_icmp .ge (29), 3) ∧ 7 + 3 = 10 ∧ ((7 : Nat) : Int) + (29) = ((36 : Nat) : Int) := ⟨by decide +kernel, rfl, by decide⟩
theorem dST_standsAt_10 : decode b_ST_standsAt 10 = .ok (.aload_n 0, 1) ∧ 10 + 1 = 11 := ⟨by decide +kernel, rfl⟩
theorem dST_standsAt_11 : decode b_ST_standsAt 11 = .ok (.getfield 9, 3) ∧ 11 + 3 = 14 := ⟨by decide +kernel, rfl⟩
theorem dST_standsAt_14 : decode b_ST_standsAt 14 = .ok (.iload_n 1, 1) ∧ 14 + 1 = 15 := ⟨by decide +kernel, rfl⟩
theorem dST_standsAt_15 : decode b_ST_standsAt 15 = .ok (.iload 5, 2) ∧ 15 + 2 = 17 := ⟨by decide +kernel, rfl⟩
theorem dST_standsAt_17 : decode b_ST_standsAt 17 = .ok (.iadd, 1) ∧ 17 + 1 = 18 := ⟨by decide +kernel, rfl⟩
theorem dST_standsAt_18 : decode b_ST_standsAt 18 = .ok (.baload, 1) ∧ 18 + 1 = 19 := ⟨by decide +kernel, rfl⟩
theorem dST_standsAt_19 : decode b_ST_standsAt 19 = .ok (.aload_n 2, 1) ∧ 19 + 1 = 20 := ⟨by decide +kernel, rfl⟩
theorem dST_standsAt_20 : decode b_ST_standsAt 20 = .ok (.iload_n 3, 1) ∧ 20 + 1 = 21 := ⟨by decide +kernel, rfl⟩
theorem dST_standsAt_21 : decode b_ST_standsAt 21 = .ok (.iload 5, 2) ∧ 21 + 2 = 23 := ⟨by decide +kernel, rfl⟩
theorem dST_standsAt_23 : decode b_ST_standsAt 23 = .ok (.iadd, 1) ∧ 23 + 1 = 24 := ⟨by decide +kernel, rfl⟩
theorem dST_standsAt_24 : decode b_ST_standsAt 24 = .ok (.baload, 1) ∧ 24 + 1 = 25 := ⟨by decide +kernel, rfl⟩
theorem dST_standsAt_25 : decode b_ST_standsAt 25 = .ok (.if_icmp .eq (5), 3) ∧ 25 + 3 = 28 ∧ ((25 : Nat) : Int) + (5) = ((30 : Nat) : Int) := ⟨by decide +kernel, rfl, by decide⟩
theorem dST_standsAt_28 : decode b_ST_standsAt 28 = .ok (.iconst 0, 1) ∧ 28 + 1 = 29 := ⟨by decide +kernel, rfl⟩
theorem dST_standsAt_29 : decode b_ST_standsAt 29 = .ok (.ireturn, 1) ∧ 29 + 1 = 30 := ⟨by decide +kernel, rfl⟩
theorem dST_standsAt_30 : decode b_ST_standsAt 30 = .ok (.iinc 5 (1), 3) ∧ 30 + 3 = 33 := ⟨by decide +kernel, rfl⟩
theorem dST_standsAt_33 : decode b_ST_standsAt 33 = .ok (.goto (-30), 3) ∧ 33 + 3 = 36 ∧ ((33 : Nat) : Int) + (-30) = ((3 : Nat) : Int) := ⟨by decide +kernel, rfl, by decide⟩
theorem dST_standsAt_36 : decode b_ST_standsAt 36 = .ok (.iconst 1, 1) ∧ 36 + 1 = 37 := ⟨by decide +kernel, rfl⟩
theorem dST_standsAt_37 : decode b_ST_standsAt 37 = .ok (.ireturn, 1) ∧ 37 + 1 = 38 := ⟨by decide +kernel, rfl⟩
theorem dST_placeOf_0 : decode b_ST_placeOf 0 = .ok (.iload_n 3, 1) ∧ 0 + 1 = 1 := ⟨by decide +kernel, rfl⟩
theorem dST_placeOf_1 : decode b_ST_placeOf 1 = .ok (.iconst 1, 1) ∧ 1 + 1 = 2 := ⟨by decide +kernel, rfl⟩
theorem dST_placeOf_2 : decode b_ST_placeOf 2 = .ok (.if_icmp .lt (15), 3) ∧ 2 + 3 = 5 ∧ ((2 : Nat) : Int) + (15) = ((17 : Nat) : Int) := ⟨by decide +kernel, rfl, by decide⟩
theorem dST_placeOf_5 : decode b_ST_placeOf 5 = .ok (.iload_n 2, 1) ∧ 5 + 1 = 6 := ⟨by decide +kernel, rfl⟩
theorem dST_placeOf_6 : decode b_ST_placeOf 6 = .ok (.ifCond .lt (11), 3) ∧ 6 + 3 = 9 ∧ ((6 : Nat) : Int) + (11) = ((17 : Nat) : Int) := ⟨by decide +kernel, rfl, by decide⟩
theorem dST_placeOf_9 : decode b_ST_placeOf 9 = .ok (.iload_n 2, 1) ∧ 9 + 1 = 10 := ⟨by decide +kernel, rfl⟩
theorem dST_placeOf_10 : decode b_ST_placeOf 10 = .ok (.aload_n 1, 1) ∧ 10 + 1 = 11 := ⟨by decide +kernel, rfl⟩
theorem dST_placeOf_11 : decode b_ST_placeOf 11 = .ok (.arraylength, 1) ∧ 11 + 1 = 12 := ⟨by decide +kernel, rfl⟩
theorem dST_placeOf_12 : decode b_ST_placeOf 12 = .ok (.iload_n 3, 1) ∧ 12 + 1 = 13 := ⟨by decide +kernel, rfl⟩
theorem dST_placeOf_13 : decode b_ST_placeOf 13 = .ok (.isub, 1) ∧ 13 + 1 = 14 := ⟨by decide +kernel, rfl⟩
theorem dST_placeOf_14 : decode b_ST_placeOf 14 = .ok (.if_icmp .le (5), 3) ∧ 14 + 3 = 17 ∧ ((14 : Nat) : Int) + (5) = ((19 : Nat) : Int) := ⟨by decide +kernel, rfl, by decide⟩
theorem dST_placeOf_17 : decode b_ST_placeOf 17 = .ok (.iconst 0, 1) ∧ 17 + 1 = 18 := ⟨by decide +kernel, rfl⟩
theorem dST_placeOf_18 : decode b_ST_placeOf 18 = .ok (.ireturn, 1) ∧ 18 + 1 = 19 := ⟨by decide +kernel, rfl⟩
theorem dST_placeOf_19 : decode b_ST_placeOf 19 = .ok (.iconst 1, 1) ∧ 19 + 1 = 20 := ⟨by decide +kernel, rfl⟩
theorem dST_placeOf_20 : decode b_ST_placeOf 20 = .ok (.istore 4, 2) ∧ 20 + 2 = 22 := ⟨by decide +kernel, rfl⟩
theorem dST_placeOf_22 : decode b_ST_placeOf 22 = .ok (.iload 4, 2) ∧ 22 + 2 = 24 := ⟨by decide +kernel, rfl⟩
theorem dST_placeOf_24 : decode b_ST_placeOf 24 = .ok (.aload_n 0, 1) ∧ 24 + 1 = 25 := ⟨by decide +kernel, rfl⟩
theorem dST_placeOf_25 : decode b_ST_placeOf 25 = .ok (.getfield 15, 3) ∧ 25 + 3 = 28 := ⟨by decide +kernel, rfl⟩
theorem dST_placeOf_28 : decode b_ST_placeOf 28 = .ok (.iload_n 3, 1) ∧ 28 + 1 = 29 := ⟨by decide +kernel, rfl⟩
theorem dST_placeOf_29 : decode b_ST_placeOf 29 = .ok (.isub, 1) ∧ 29 + 1 = 30 := ⟨by decide +kernel, rfl⟩
theorem dST_placeOf_30 : decode b_ST_placeOf 30 = .ok (.if_icmp .ge (36), 3) ∧ 30 + 3 = 33 ∧ ((30 : Nat) : Int) + (36) = ((66 : Nat) : Int) := ⟨by decide +kernel, rfl, by decide⟩
theorem dST_placeOf_33 : decode b_ST_placeOf 33 = .ok (.aload_n 0, 1) ∧ 33 + 1 = 34 := ⟨by decide +kernel, rfl⟩
theorem dST_placeOf_34 : decode b_ST_placeOf 34 = .ok (.getfield 9, 3) ∧ 34 + 3 = 37 := ⟨by decide +kernel, rfl⟩
theorem dST_placeOf_37 : decode b_ST_placeOf 37 = .ok (.iload 4, 2) ∧ 37 + 2 = 39 := ⟨by decide +kernel, rfl⟩
theorem dST_placeOf_39 : decode b_ST_placeOf 39 = .ok (.iload_n 3, 1) ∧ 39 + 1 = 40 := ⟨by decide +kernel, rfl⟩
theorem dST_placeOf_40 : decode b_ST_placeOf 40 = .ok (.iadd, 1) ∧ 40 + 1 = 41 := ⟨by decide +kernel, rfl⟩
theorem dST_placeOf_41 : decode b_ST_placeOf 41 = .ok (.baload, 1) ∧ 41 + 1 = 42 := ⟨by decide +kernel, rfl⟩
theorem dST_placeOf_42 : decode b_ST_placeOf 42 = .ok (.ifCond .ne (18), 3) ∧ 42 + 3 = 45 ∧ ((42 : Nat) : Int) + (18) = ((60 : Nat) : Int) := ⟨by decide +kernel, rfl, by decide⟩
theorem dST_placeOf_45 : decode b_ST_placeOf 45 = .ok (.aload_n 0, 1) ∧ 45 + 1 = 46 := ⟨by decide +kernel, rfl⟩
theorem dST_placeOf_46 : decode b_ST_placeOf 46 = .ok (.iload 4, 2) ∧ 46 + 2 = 48 := ⟨by decide +kernel, rfl⟩
theorem dST_placeOf_48 : decode b_ST_placeOf 48 = .ok (.aload_n 1, 1) ∧ 48 + 1 = 49 := ⟨by decide +kernel, rfl⟩
theorem dST_placeOf_49 : decode b_ST_placeOf 49 = .ok (.iload_n 2, 1) ∧ 49 + 1 = 50 := ⟨by decide +kernel, rfl⟩
theorem dST_placeOf_50 : decode b_ST_placeOf 50 = .ok (.iload_n 3, 1) ∧ 50 + 1 = 51 := ⟨by decide +kernel, rfl⟩
theorem dST_placeOf_51 : decode b_ST_placeOf 51 = .ok (.invokevirtual 19, 3) ∧ 51 + 3 = 54 := ⟨by decide +kernel, rfl⟩
theorem dST_placeOf_54 : decode b_ST_placeOf 54 = .ok (.ifCond .eq (6), 3) ∧ 54 + 3 = 57 ∧ ((54 : Nat) : Int) + (6) = ((60 : Nat) : Int) := ⟨by decide +kernel, rfl, by decide⟩
theorem dST_placeOf_57 : decode b_ST_placeOf 57 = .ok (.iload 4, 2) ∧ 57 + 2 = 59 := ⟨by decide +kernel, rfl⟩
theorem dST_placeOf_59 : decode b_ST_placeOf 59 = .ok (.ireturn, 1) ∧ 59 + 1 = 60 := ⟨by decide +kernel, rfl⟩
theorem dST_placeOf_60 : decode b_ST_placeOf 60 = .ok (.iinc 4 (1), 3) ∧ 60 + 3 = 63 := ⟨by decide +kernel, rfl⟩
theorem dST_placeOf_63 : decode b_ST_placeOf 63 = .ok (.goto (-41), 3) ∧ 63 + 3 = 66 ∧ ((63 : Nat) : Int) + (-41) = ((22 : Nat) : Int) := ⟨by decide +kernel, rfl, by decide⟩
theorem dST_placeOf_66 : decode b_ST_placeOf 66 = .ok (.aload_n 0, 1) ∧ 66 + 1 = 67 := ⟨by decide +kernel, rfl⟩
theorem dST_placeOf_67 : decode b_ST_placeOf 67 = .ok (.aload_n 1, 1) ∧ 67 + 1 = 68 := ⟨by decide +kernel, rfl⟩
theorem dST_placeOf_68 : decode b_ST_placeOf 68 = .ok (.iload_n 2, 1) ∧ 68 + 1 = 69 := ⟨by decide +kernel, rfl⟩
theorem dST_placeOf_69 : decode b_ST_placeOf 69 = .ok (.iload_n 3, 1) ∧ 69 + 1 = 70 := ⟨by decide +kernel, rfl⟩
theorem dST_placeOf_70 : decode b_ST_placeOf 70 = .ok (.invokevirtual 23, 3) ∧ 70 + 3 = 73 := ⟨by decide +kernel, rfl⟩
theorem dST_placeOf_73 : decode b_ST_placeOf 73 = .ok (.ireturn, 1) ∧ 73 + 1 = 74 := ⟨by decide +kernel, rfl⟩
