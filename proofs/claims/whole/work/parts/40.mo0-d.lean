theorem dMO_clear_0 : decode b_MO_clear 0 = .ok (.iconst 0, 1) ∧ 0 + 1 = 1 := ⟨by decide +kernel, rfl⟩
theorem dMO_clear_1 : decode b_MO_clear 1 = .ok (.istore_n 1, 1) ∧ 1 + 1 = 2 := ⟨by decide +kernel, rfl⟩
theorem dMO_clear_2 : decode b_MO_clear 2 = .ok (.iload_n 1, 1) ∧ 2 + 1 = 3 := ⟨by decide +kernel, rfl⟩
theorem dMO_clear_3 : decode b_MO_clear 3 = .ok (.iconst 4, 1) ∧ 3 + 1 = 4 := ⟨by decide +kernel, rfl⟩
theorem dMO_clear_4 : decode b_MO_clear 4 = .ok (.if_icmp .ge (23), 3) ∧ 4 + 3 = 7 ∧ ((4 : Nat) : Int) + (23) = ((27 : Nat) : Int) := ⟨by decide +kernel, rfl, by decide⟩
theorem dMO_clear_7 : decode b_MO_clear 7 = .ok (.aload_n 0, 1) ∧ 7 + 1 = 8 := ⟨by decide +kernel, rfl⟩
theorem dMO_clear_8 : decode b_MO_clear 8 = .ok (.getfield 13, 3) ∧ 8 + 3 = 11 := ⟨by decide +kernel, rfl⟩
theorem dMO_clear_11 : decode b_MO_clear 11 = .ok (.iload_n 1, 1) ∧ 11 + 1 = 12 := ⟨by decide +kernel, rfl⟩
theorem dMO_clear_12 : decode b_MO_clear 12 = .ok (.iconst 0, 1) ∧ 12 + 1 = 13 := ⟨by decide +kernel, rfl⟩
theorem dMO_clear_13 : decode b_MO_clear 13 = .ok (.iastore, 1) ∧ 13 + 1 = 14 := ⟨by decide +kernel, rfl⟩
theorem dMO_clear_14 : decode b_MO_clear 14 = .ok (.aload_n 0, 1) ∧ 14 + 1 = 15 := ⟨by decide +kernel, rfl⟩
theorem dMO_clear_15 : decode b_MO_clear 15 = .ok (.getfield 16, 3) ∧ 15 + 3 = 18 := ⟨by decide +kernel, rfl⟩
theorem dMO_clear_18 : decode b_MO_clear 18 = .ok (.iload_n 1, 1) ∧ 18 + 1 = 19 := ⟨by decide +kernel, rfl⟩
theorem dMO_clear_19 : decode b_MO_clear 19 = .ok (.iconst 1, 1) ∧ 19 + 1 = 20 := ⟨by decide +kernel, rfl⟩
theorem dMO_clear_20 : decode b_MO_clear 20 = .ok (.iastore, 1) ∧ 20 + 1 = 21 := ⟨by decide +kernel, rfl⟩
theorem dMO_clear_21 : decode b_MO_clear 21 = .ok (.iinc 1 (1), 3) ∧ 21 + 3 = 24 := ⟨by decide +kernel, rfl⟩
theorem dMO_clear_24 : decode b_MO_clear 24 = .ok (.goto (-22), 3) ∧ 24 + 3 = 27 ∧ ((24 : Nat) : Int) + (-22) = ((2 : Nat) : Int) := ⟨by decide +kernel, rfl, by decide⟩
theorem dMO_clear_27 : decode b_MO_clear 27 = .ok (.aload_n 0, 1) ∧ 27 + 1 = 28 := ⟨by decide +kernel, rfl⟩
theorem dMO_clear_28 : decode b_MO_clear 28 = .ok (.getfield 22, 3) ∧ 28 + 3 = 31 := ⟨by decide +kernel, rfl⟩
theorem dMO_clear_31 : decode b_MO_clear 31 = .ok (.iconst 0, 1) ∧ 31 + 1 = 32 := ⟨by decide +kernel, rfl⟩
theorem dMO_clear_32 : decode b_MO_clear 32 = .ok (.iconst 0, 1) ∧ 32 + 1 = 33 := ⟨by decide +kernel, rfl⟩
theorem dMO_clear_33 : decode b_MO_clear 33 = .ok (.iastore, 1) ∧ 33 + 1 = 34 := ⟨by decide +kernel, rfl⟩
theorem dMO_clear_34 : decode b_MO_clear 34 = .ok (.aload_n 0, 1) ∧ 34 + 1 = 35 := ⟨by decide +kernel, rfl⟩
theorem dMO_clear_35 : decode b_MO_clear 35 = .ok (.getfield 46, 3) ∧ 35 + 3 = 38 := ⟨by decide +kernel, rfl⟩
theorem dMO_clear_38 : decode b_MO_clear 38 = .ok (.iconst 0, 1) ∧ 38 + 1 = 39 := ⟨by decide +kernel, rfl⟩
theorem dMO_clear_39 : decode b_MO_clear 39 = .ok (.iconst 0, 1) ∧ 39 + 1 = 40 := ⟨by decide +kernel, rfl⟩
theorem dMO_clear_40 : decode b_MO_clear 40 = .ok (.iastore, 1) ∧ 40 + 1 = 41 := ⟨by decide +kernel, rfl⟩
theorem dMO_clear_41 : decode b_MO_clear 41 = .ok (.aload_n 0, 1) ∧ 41 + 1 = 42 := ⟨by decide +kernel, rfl⟩
theorem dMO_clear_42 : decode b_MO_clear 42 = .ok (.getfield 64, 3) ∧ 42 + 3 = 45 := ⟨by decide +kernel, rfl⟩
theorem dMO_clear_45 : decode b_MO_clear 45 = .ok (.iconst 0, 1) ∧ 45 + 1 = 46 := ⟨by decide +kernel, rfl⟩
theorem dMO_clear_46 : decode b_MO_clear 46 = .ok (.iconst 0, 1) ∧ 46 + 1 = 47 := ⟨by decide +kernel, rfl⟩
theorem dMO_clear_47 : decode b_MO_clear 47 = .ok (.iastore, 1) ∧ 47 + 1 = 48 := ⟨by decide +kernel, rfl⟩
theorem dMO_clear_48 : decode b_MO_clear 48 = .ok (.aload_n 0, 1) ∧ 48 + 1 = 49 := ⟨by decide +kernel, rfl⟩
theorem dMO_clear_49 : decode b_MO_clear 49 = .ok (.iconst 0, 1) ∧ 49 + 1 = 50 := ⟨by decide +kernel, rfl⟩
theorem dMO_clear_50 : decode b_MO_clear 50 = .ok (.putfield 134, 3) ∧ 50 + 3 = 53 := ⟨by decide +kernel, rfl⟩
theorem dMO_clear_53 : decode b_MO_clear 53 = .ok (.return_, 1) ∧ 53 + 1 = 54 := ⟨by decide +kernel, rfl⟩
theorem dMO_byteOf_0 : decode b_MO_byteOf 0 = .ok (.lload_n 0, 1) ∧ 0 + 1 = 1 := ⟨by decide +kernel, rfl⟩
theorem dMO_byteOf_1 : decode b_MO_byteOf 1 = .ok (.bipush (56), 2) ∧ 1 + 2 = 3 := ⟨by decide +kernel, rfl⟩
theorem dMO_byteOf_3 : decode b_MO_byteOf 3 = .ok (.bipush (8), 2) ∧ 3 + 2 = 5 := ⟨by decide +kernel, rfl⟩
theorem dMO_byteOf_5 : decode b_MO_byteOf 5 = .ok (.iload_n 2, 1) ∧ 5 + 1 = 6 := ⟨by decide +kernel, rfl⟩
theorem dMO_byteOf_6 : decode b_MO_byteOf 6 = .ok (.imul, 1) ∧ 6 + 1 = 7 := ⟨by decide +kernel, rfl⟩
theorem dMO_byteOf_7 : decode b_MO_byteOf 7 = .ok (.isub, 1) ∧ 7 + 1 = 8 := ⟨by decide +kernel, rfl⟩
theorem dMO_byteOf_8 : decode b_MO_byteOf 8 = .ok (.lshr, 1) ∧ 8 + 1 = 9 := ⟨by decide +kernel, rfl⟩
theorem dMO_byteOf_9 : decode b_MO_byteOf 9 = .ok (.ldc2_w 132, 3) ∧ 9 + 3 = 12 := ⟨by decide +kernel, rfl⟩
theorem dMO_byteOf_12 : decode b_MO_byteOf 12 = .ok (.land, 1) ∧ 12 + 1 = 13 := ⟨by decide +kernel, rfl⟩
theorem dMO_byteOf_13 : decode b_MO_byteOf 13 = .ok (.l2i, 1) ∧ 13 + 1 = 14 := ⟨by decide +kernel, rfl⟩
theorem dMO_byteOf_14 : decode b_MO_byteOf 14 = .ok (.ireturn, 1) ∧ 14 + 1 = 15 := ⟨by decide +kernel, rfl⟩
theorem dMO_put_0 : decode b_MO_put 0 = .ok (.iload_n 1, 1) ∧ 0 + 1 = 1 := ⟨by decide +kernel, rfl⟩
theorem dMO_put_1 : decode b_MO_put 1 = .ok (.ifCond .lt (33), 3) ∧ 1 + 3 = 4 ∧ ((1 : Nat) : Int) + (33) = ((34 : Nat) : Int) := ⟨by decide +kernel, rfl, by decide⟩
theorem dMO_put_4 : decode b_MO_put 4 = .ok (.iload_n 1, 1) ∧ 4 + 1 = 5 := ⟨by decide +kernel, rfl⟩
theorem dMO_put_5 : decode b_MO_put 5 = .ok (.iconst 2, 1) ∧ 5 + 1 = 6 := ⟨by decide +kernel, rfl⟩
theorem dMO_put_6 : decode b_MO_put 6 = .ok (.if_icmp .gt (28), 3) ∧ 6 + 3 = 9 ∧ ((6 : Nat) : Int) + (28) = ((34 : Nat) : Int) := ⟨by decide +kernel, rfl, by decide⟩
theorem dMO_put_9 : decode b_MO_put 9 = .ok (.iload_n 2, 1) ∧ 9 + 1 = 10 := ⟨by decide +kernel, rfl⟩
theorem dMO_put_10 : decode b_MO_put 10 = .ok (.iconst 1, 1) ∧ 10 + 1 = 11 := ⟨by decide +kernel, rfl⟩
theorem dMO_put_11 : decode b_MO_put 11 = .ok (.if_icmp .lt (23), 3) ∧ 11 + 3 = 14 ∧ ((11 : Nat) : Int) + (23) = ((34 : Nat) : Int) := ⟨by decide +kernel, rfl, by decide⟩
theorem dMO_put_14 : decode b_MO_put 14 = .ok (.iload_n 2, 1) ∧ 14 + 1 = 15 := ⟨by decide +kernel, rfl⟩
theorem dMO_put_15 : decode b_MO_put 15 = .ok (.bipush (8), 2) ∧ 15 + 2 = 17 := ⟨by decide +kernel, rfl⟩
theorem dMO_put_17 : decode b_MO_put 17 = .ok (.if_icmp .gt (17), 3) ∧ 17 + 3 = 20 ∧ ((17 : Nat) : Int) + (17) = ((34 : Nat) : Int) := ⟨by decide +kernel, rfl, by decide⟩
theorem dMO_put_20 : decode b_MO_put 20 = .ok (.aload_n 0, 1) ∧ 20 + 1 = 21 := ⟨by decide +kernel, rfl⟩
theorem dMO_put_21 : decode b_MO_put 21 = .ok (.getfield 13, 3) ∧ 21 + 3 = 24 := ⟨by decide +kernel, rfl⟩
theorem dMO_put_24 : decode b_MO_put 24 = .ok (.iload_n 1, 1) ∧ 24 + 1 = 25 := ⟨by decide +kernel, rfl⟩
theorem dMO_put_25 : decode b_MO_put 25 = .ok (.iaload, 1) ∧ 25 + 1 = 26 := ⟨by decide +kernel, rfl⟩
theorem dMO_put_26 : decode b_MO_put 26 = .ok (.iload_n 2, 1) ∧ 26 + 1 = 27 := ⟨by decide +kernel, rfl⟩
theorem dMO_put_27 : decode b_MO_put 27 = .ok (.iadd, 1) ∧ 27 + 1 = 28 := ⟨by decide +kernel, rfl⟩
theorem dMO_put_28 : decode b_MO_put 28 = .ok (.sipush (2048), 3) ∧ 28 + 3 = 31 := ⟨by decide +kernel, rfl⟩
theorem dMO_put_31 : decode b_MO_put 31 = .ok (.if_icmp .le (5), 3) ∧ 31 + 3 = 34 ∧ ((31 : Nat) : Int) + (5) = ((36 : Nat) : Int) := ⟨by decide +kernel, rfl, by decide⟩
theorem dMO_put_34 : decode b_MO_put 34 = .ok (.iconst 0, 1) ∧ 34 + 1 = 35 := ⟨by decide +kernel, rfl⟩
theorem dMO_put_35 : decode b_MO_put 35 = .ok (.ireturn, 1) ∧ 35 + 1 = 36 := ⟨by decide +kernel, rfl⟩
theorem dMO_put_36 : decode b_MO_put 36 = .ok (.iconst 0, 1) ∧ 36 + 1 = 37 := ⟨by decide +kernel, rfl⟩
theorem dMO_put_37 : decode b_MO_put 37 = .ok (.istore 5, 2) ∧ 37 + 2 = 39 := ⟨by decide +kernel, rfl⟩
theorem dMO_put_39 : decode b_MO_put 39 = .ok (.iload 5, 2) ∧ 39 + 2 = 41 := ⟨by decide +kernel, rfl⟩
theorem dMO_put_41 : decode b_MO_put 41 = .ok (.iload_n 2, 1) ∧ 41 + 1 = 42 := ⟨by decide +kernel, rfl⟩
theorem dMO_put_42 : decode b_MO_put 42 = .ok (.if_icmp .ge (35), 3) ∧ 42 + 3 = 45 ∧ ((42 : Nat) : Int) + (35) = ((77 : Nat) : Int) := ⟨by decide +kernel, rfl, by decide⟩
theorem dMO_put_45 : decode b_MO_put 45 = .ok (.aload_n 0, 1) ∧ 45 + 1 = 46 := ⟨by decide +kernel, rfl⟩
theorem dMO_put_46 : decode b_MO_put 46 = .ok (.getfield 7, 3) ∧ 46 + 3 = 49 := ⟨by decide +kernel, rfl⟩
theorem dMO_put_49 : decode b_MO_put 49 = .ok (.sipush (2048), 3) ∧ 49 + 3 = 52 := ⟨by decide +kernel, rfl⟩
theorem dMO_put_52 : decode b_MO_put 52 = .ok (.iload_n 1, 1) ∧ 52 + 1 = 53 := ⟨by decide +kernel, rfl⟩
theorem dMO_put_53 : decode b_MO_put 53 = .ok (.imul, 1) ∧ 53 + 1 = 54 := ⟨by decide +kernel, rfl⟩
theorem dMO_put_54 : decode b_MO_put 54 = .ok (.aload_n 0, 1) ∧ 54 + 1 = 55 := ⟨by decide +kernel, rfl⟩
theorem dMO_put_55 : decode b_MO_put 55 = .ok (.getfield 13, 3) ∧ 55 + 3 = 58 := ⟨by decide +kernel, rfl⟩
theorem dMO_put_58 : decode b_MO_put 58 = .ok (.iload_n 1, 1) ∧ 58 + 1 = 59 := ⟨by decide +kernel, rfl⟩
theorem dMO_put_59 : decode b_MO_put 59 = .ok (.iaload, 1) ∧ 59 + 1 = 60 := ⟨by decide +kernel, rfl⟩
theorem dMO_put_60 : decode b_MO_put 60 = .ok (.iadd, 1) ∧ 60 + 1 = 61 := ⟨by decide +kernel, rfl⟩
theorem dMO_put_61 : decode b_MO_put 61 = .ok (.iload 5, 2) ∧ 61 + 2 = 63 := ⟨by decide +kernel, rfl⟩
theorem dMO_put_63 : decode b_MO_put 63 = .ok (.iadd, 1) ∧ 63 + 1 = 64 := ⟨by decide +kernel, rfl⟩
theorem dMO_put_64 : decode b_MO_put 64 = .ok (.lload_n 3, 1) ∧ 64 + 1 = 65 := ⟨by decide +kernel, rfl⟩
theorem dMO_put_65 : decode b_MO_put 65 = .ok (.iload 5, 2) ∧ 65 + 2 = 67 := ⟨by decide +kernel, rfl⟩
theorem dMO_put_67 : decode b_MO_put 67 = .ok (.invokestatic 137, 3) ∧ 67 + 3 = 70 := ⟨by decide +kernel, rfl⟩
theorem dMO_put_70 : decode b_MO_put 70 = .ok (.iastore, 1) ∧ 70 + 1 = 71 := ⟨by decide +kernel, rfl⟩
theorem dMO_put_71 : decode b_MO_put 71 = .ok (.iinc 5 (1), 3) ∧ 71 + 3 = 74 := ⟨by decide +kernel, rfl⟩
theorem dMO_put_74 : decode b_MO_put 74 = .ok (.goto (-35), 3) ∧ 74 + 3 = 77 ∧ ((74 : Nat) : Int) + (-35) = ((39 : Nat) : Int) := ⟨by decide +kernel, rfl, by decide⟩
theorem dMO_put_77 : decode b_MO_put 77 = .ok (.aload_n 0, 1) ∧ 77 + 1 = 78 := ⟨by decide +kernel, rfl⟩
theorem dMO_put_78 : decode b_MO_put 78 = .ok (.getfield 13, 3) ∧ 78 + 3 = 81 := ⟨by decide +kernel, rfl⟩
theorem dMO_put_81 : decode b_MO_put 81 = .ok (.iload_n 1, 1) ∧ 81 + 1 = 82 := ⟨by decide +kernel, rfl⟩
theorem dMO_put_82 : decode b_MO_put 82 = .ok (.dup2, 1) ∧ 82 + 1 = 83 := ⟨by decide +kernel, rfl⟩
theorem dMO_put_83 : decode b_MO_put 83 = .ok (.iaload, 1) ∧ 83 + 1 = 84 := ⟨by decide +kernel, rfl⟩
theorem dMO_put_84 : decode b_MO_put 84 = .ok (.iload_n 2, 1) ∧ 84 + 1 = 85 := ⟨by decide +kernel, rfl⟩
theorem dMO_put_85 : decode b_MO_put 85 = .ok (.iadd, 1) ∧ 85 + 1 = 86 := ⟨by decide +kernel, rfl⟩
theorem dMO_put_86 : decode b_MO_put 86 = .ok (.iastore, 1) ∧ 86 + 1 = 87 := ⟨by decide +kernel, rfl⟩
theorem dMO_put_87 : decode b_MO_put 87 = .ok (.iconst 1, 1) ∧ 87 + 1 = 88 := ⟨by decide +kernel, rfl⟩
theorem dMO_put_88 : decode b_MO_put 88 = .ok (.ireturn, 1) ∧ 88 + 1 = 89 := ⟨by decide +kernel, rfl⟩
theorem dMO_bss_0 : decode b_MO_bss 0 = .ok (.iload_n 1, 1) ∧ 0 + 1 = 1 := ⟨by decide +kernel, rfl⟩
theorem dMO_bss_1 : decode b_MO_bss 1 = .ok (.ifCond .lt (10), 3) ∧ 1 + 3 = 4 ∧ ((1 : Nat) : Int) + (10) = ((11 : Nat) : Int) := ⟨by decide +kernel, rfl, by decide⟩
theorem dMO_bss_4 : decode b_MO_bss 4 = .ok (.iload_n 1, 1) ∧ 4 + 1 = 5 := ⟨by decide +kernel, rfl⟩
theorem dMO_bss_5 : decode b_MO_bss 5 = .ok (.sipush (4096), 3) ∧ 5 + 3 = 8 := ⟨by decide +kernel, rfl⟩
theorem dMO_bss_8 : decode b_MO_bss 8 = .ok (.if_icmp .le (5), 3) ∧ 8 + 3 = 11 ∧ ((8 : Nat) : Int) + (5) = ((13 : Nat) : Int) := ⟨by decide +kernel, rfl, by decide⟩
theorem dMO_bss_11 : decode b_MO_bss 11 = .ok (.iconst 0, 1) ∧ 11 + 1 = 12 := ⟨by decide +kernel, rfl⟩
theorem dMO_bss_12 : decode b_MO_bss 12 = .ok (.ireturn, 1) ∧ 12 + 1 = 13 := ⟨by decide +kernel, rfl⟩
theorem dMO_bss_13 : decode b_MO_bss 13 = .ok (.aload_n 0, 1) ∧ 13 + 1 = 14 := ⟨by decide +kernel, rfl⟩
theorem dMO_bss_14 : decode b_MO_bss 14 = .ok (.getfield 13, 3) ∧ 14 + 3 = 17 := ⟨by decide +kernel, rfl⟩
theorem dMO_bss_17 : decode b_MO_bss 17 = .ok (.iconst 3, 1) ∧ 17 + 1 = 18 := ⟨by decide +kernel, rfl⟩
theorem dMO_bss_18 : decode b_MO_bss 18 = .ok (.iload_n 1, 1) ∧ 18 + 1 = 19 := ⟨by decide +kernel, rfl⟩
theorem dMO_bss_19 : decode b_MO_bss 19 = .ok (.iastore, 1) ∧ 19 + 1 = 20 := ⟨by decide +kernel, rfl⟩
theorem dMO_bss_20 : decode b_MO_bss 20 = .ok (.iconst 1, 1) ∧ 20 + 1 = 21 := ⟨by decide +kernel, rfl⟩
theorem dMO_bss_21 : decode b_MO_bss 21 = .ok (.ireturn, 1) ∧ 21 + 1 = 22 := ⟨by decide +kernel, rfl⟩
theorem dMO_align_0 : decode b_MO_align 0 = .ok (.iload_n 1, 1) ∧ 0 + 1 = 1 := ⟨by decide +kernel, rfl⟩
theorem dMO_align_1 : decode b_MO_align 1 = .ok (.ifCond .lt (18), 3) ∧ 1 + 3 = 4 ∧ ((1 : Nat) : Int) + (18) = ((19 : Nat) : Int) := ⟨by decide +kernel, rfl, by decide⟩
theorem dMO_align_4 : decode b_MO_align 4 = .ok (.iload_n 1, 1) ∧ 4 + 1 = 5 := ⟨by decide +kernel, rfl⟩
theorem dMO_align_5 : decode b_MO_align 5 = .ok (.iconst 3, 1) ∧ 5 + 1 = 6 := ⟨by decide +kernel, rfl⟩
theorem dMO_align_6 : decode b_MO_align 6 = .ok (.if_icmp .gt (13), 3) ∧ 6 + 3 = 9 ∧ ((6 : Nat) : Int) + (13) = ((19 : Nat) : Int) := ⟨by decide +kernel, rfl, by decide⟩
theorem dMO_align_9 : decode b_MO_align 9 = .ok (.iload_n 2, 1) ∧ 9 + 1 = 10 := ⟨by decide +kernel, rfl⟩
theorem dMO_align_10 : decode b_MO_align 10 = .ok (.ifCond .lt (9), 3) ∧ 10 + 3 = 13 ∧ ((10 : Nat) : Int) + (9) = ((19 : Nat) : Int) := ⟨by decide +kernel, rfl, by decide⟩
theorem dMO_align_13 : decode b_MO_align 13 = .ok (.iload_n 2, 1) ∧ 13 + 1 = 14 := ⟨by decide +kernel, rfl⟩
theorem dMO_align_14 : decode b_MO_align 14 = .ok (.bipush (6), 2) ∧ 14 + 2 = 16 := ⟨by decide +kernel, rfl⟩
theorem dMO_align_16 : decode b_MO_align 16 = .ok (.if_icmp .le (5), 3) ∧ 16 + 3 = 19 ∧ ((16 : Nat) : Int) + (5) = ((21 : Nat) : Int) := ⟨by decide +kernel, rfl, by decide⟩
theorem dMO_align_19 : decode b_MO_align 19 = .ok (.iconst 0, 1) ∧ 19 + 1 = 20 := ⟨by decide +kernel, rfl⟩
theorem dMO_align_20 : decode b_MO_align 20 = .ok (.ireturn, 1) ∧ 20 + 1 = 21 := ⟨by decide +kernel, rfl⟩
theorem dMO_align_21 : decode b_MO_align 21 = .ok (.aload_n 0, 1) ∧ 21 + 1 = 22 := ⟨by decide +kernel, rfl⟩
theorem dMO_align_22 : decode b_MO_align 22 = .ok (.getfield 16, 3) ∧ 22 + 3 = 25 := ⟨by decide +kernel, rfl⟩
theorem dMO_align_25 : decode b_MO_align 25 = .ok (.iload_n 1, 1) ∧ 25 + 1 = 26 := ⟨by decide +kernel, rfl⟩
theorem dMO_align_26 : decode b_MO_align 26 = .ok (.iconst 1, 1) ∧ 26 + 1 = 27 := ⟨by decide +kernel, rfl⟩
theorem dMO_align_27 : decode b_MO_align 27 = .ok (.iload_n 2, 1) ∧ 27 + 1 = 28 := ⟨by decide +kernel, rfl⟩
theorem dMO_align_28 : decode b_MO_align 28 = .ok (.ishl, 1) ∧ 28 + 1 = 29 := ⟨by decide +kernel, rfl⟩
theorem dMO_align_29 : decode b_MO_align 29 = .ok (.iastore, 1) ∧ 29 + 1 = 30 := ⟨by decide +kernel, rfl⟩
theorem dMO_align_30 : decode b_MO_align 30 = .ok (.iconst 1, 1) ∧ 30 + 1 = 31 := ⟨by decide +kernel, rfl⟩
theorem dMO_align_31 : decode b_MO_align 31 = .ok (.ireturn, 1) ∧ 31 + 1 = 32 := ⟨by decide +kernel, rfl⟩
theorem dMO_start_0 : decode b_MO_start 0 = .ok (.aload_n 0, 1) ∧ 0 + 1 = 1 := ⟨by decide +kernel, rfl⟩
theorem dMO_start_1 : decode b_MO_start 1 = .ok (.getfield 22, 3) ∧ 1 + 3 = 4 := ⟨by decide +kernel, rfl⟩
theorem dMO_start_4 : decode b_MO_start 4 = .ok (.iconst 0, 1) ∧ 4 + 1 = 5 := ⟨by decide +kernel, rfl⟩
theorem dMO_start_5 : decode b_MO_start 5 = .ok (.iaload, 1) ∧ 5 + 1 = 6 := ⟨by decide +kernel, rfl⟩
theorem dMO_start_6 : decode b_MO_start 6 = .ok (.istore_n 2, 1) ∧ 6 + 1 = 7 := ⟨by decide +kernel, rfl⟩
theorem dMO_start_7 : decode b_MO_start 7 = .ok (.iload_n 1, 1) ∧ 7 + 1 = 8 := ⟨by decide +kernel, rfl⟩
theorem dMO_start_8 : decode b_MO_start 8 = .ok (.ifCond .lt (39), 3) ∧ 8 + 3 = 11 ∧ ((8 : Nat) : Int) + (39) = ((47 : Nat) : Int) := ⟨by decide +kernel, rfl, by decide⟩
theorem dMO_start_11 : decode b_MO_start 11 = .ok (.iload_n 1, 1) ∧ 11 + 1 = 12 := ⟨by decide +kernel, rfl⟩
theorem dMO_start_12 : decode b_MO_start 12 = .ok (.sipush (2046), 3) ∧ 12 + 3 = 15 := ⟨by decide +kernel, rfl⟩
theorem dMO_start_15 : decode b_MO_start 15 = .ok (.if_icmp .gt (32), 3) ∧ 15 + 3 = 18 ∧ ((15 : Nat) : Int) + (32) = ((47 : Nat) : Int) := ⟨by decide +kernel, rfl, by decide⟩
theorem dMO_start_18 : decode b_MO_start 18 = .ok (.iload_n 1, 1) ∧ 18 + 1 = 19 := ⟨by decide +kernel, rfl⟩
theorem dMO_start_19 : decode b_MO_start 19 = .ok (.iconst 2, 1) ∧ 19 + 1 = 20 := ⟨by decide +kernel, rfl⟩
theorem dMO_start_20 : decode b_MO_start 20 = .ok (.irem, 1) ∧ 20 + 1 = 21 := ⟨by decide +kernel, rfl⟩
theorem dMO_start_21 : decode b_MO_start 21 = .ok (.ifCond .ne (26), 3) ∧ 21 + 3 = 24 ∧ ((21 : Nat) : Int) + (26) = ((47 : Nat) : Int) := ⟨by decide +kernel, rfl, by decide⟩
theorem dMO_start_24 : decode b_MO_start 24 = .ok (.iload_n 2, 1) ∧ 24 + 1 = 25 := ⟨by decide +kernel, rfl⟩
theorem dMO_start_25 : decode b_MO_start 25 = .ok (.sipush (1024), 3) ∧ 25 + 3 = 28 := ⟨by decide +kernel, rfl⟩
theorem dMO_start_28 : decode b_MO_start 28 = .ok (.if_icmp .eq (19), 3) ∧ 28 + 3 = 31 ∧ ((28 : Nat) : Int) + (19) = ((47 : Nat) : Int) := ⟨by decide +kernel, rfl, by decide⟩
theorem dMO_start_31 : decode b_MO_start 31 = .ok (.iload_n 2, 1) ∧ 31 + 1 = 32 := ⟨by decide +kernel, rfl⟩
theorem dMO_start_32 : decode b_MO_start 32 = .ok (.ifCond .le (17), 3) ∧ 32 + 3 = 35 ∧ ((32 : Nat) : Int) + (17) = ((49 : Nat) : Int) := ⟨by decide +kernel, rfl, by decide⟩
theorem dMO_start_35 : decode b_MO_start 35 = .ok (.iload_n 1, 1) ∧ 35 + 1 = 36 := ⟨by decide +kernel, rfl⟩
theorem dMO_start_36 : decode b_MO_start 36 = .ok (.aload_n 0, 1) ∧ 36 + 1 = 37 := ⟨by decide +kernel, rfl⟩
theorem dMO_start_37 : decode b_MO_start 37 = .ok (.getfield 19, 3) ∧ 37 + 3 = 40 := ⟨by decide +kernel, rfl⟩
theorem dMO_start_40 : decode b_MO_start 40 = .ok (.iload_n 2, 1) ∧ 40 + 1 = 41 := ⟨by decide +kernel, rfl⟩
theorem dMO_start_41 : decode b_MO_start 41 = .ok (.iconst 1, 1) ∧ 41 + 1 = 42 := ⟨by decide +kernel, rfl⟩
theorem dMO_start_42 : decode b_MO_start 42 = .ok (.isub, 1) ∧ 42 + 1 = 43 := ⟨by decide +kernel, rfl⟩
theorem dMO_start_43 : decode b_MO_start 43 = .ok (.iaload, 1) ∧ 43 + 1 = 44 := ⟨by decide +kernel, rfl⟩
theorem dMO_start_44 : decode b_MO_start 44 = .ok (.if_icmp .gt (5), 3) ∧ 44 + 3 = 47 ∧ ((44 : Nat) : Int) + (5) = ((49 : Nat) : Int) := ⟨by decide +kernel, rfl, by decide⟩
theorem dMO_start_47 : decode b_MO_start 47 = .ok (.iconst 0, 1) ∧ 47 + 1 = 48 := ⟨by decide +kernel, rfl⟩
theorem dMO_start_48 : decode b_MO_start 48 = .ok (.ireturn, 1) ∧ 48 + 1 = 49 := ⟨by decide +kernel, rfl⟩
theorem dMO_start_49 : decode b_MO_start 49 = .ok (.aload_n 0, 1) ∧ 49 + 1 = 50 := ⟨by decide +kernel, rfl⟩
theorem dMO_start_50 : decode b_MO_start 50 = .ok (.getfield 19, 3) ∧ 50 + 3 = 53 := ⟨by decide +kernel, rfl⟩
theorem dMO_start_53 : decode b_MO_start 53 = .ok (.iload_n 2, 1) ∧ 53 + 1 = 54 := ⟨by decide +kernel, rfl⟩
theorem dMO_start_54 : decode b_MO_start 54 = .ok (.iload_n 1, 1) ∧ 54 + 1 = 55 := ⟨by decide +kernel, rfl⟩
theorem dMO_start_55 : decode b_MO_start 55 = .ok (.iastore, 1) ∧ 55 + 1 = 56 := ⟨by decide +kernel, rfl⟩
theorem dMO_start_56 : decode b_MO_start 56 = .ok (.aload_n 0, 1) ∧ 56 + 1 = 57 := ⟨by decide +kernel, rfl⟩
theorem dMO_start_57 : decode b_MO_start 57 = .ok (.getfield 22, 3) ∧ 57 + 3 = 60 := ⟨by decide +kernel, rfl⟩
theorem dMO_start_60 : decode b_MO_start 60 = .ok (.iconst 0, 1) ∧ 60 + 1 = 61 := ⟨by decide +kernel, rfl⟩
theorem dMO_start_61 : decode b_MO_start 61 = .ok (.dup2, 1) ∧ 61 + 1 = 62 := ⟨by decide +kernel, rfl⟩
theorem dMO_start_62 : decode b_MO_start 62 = .ok (.iaload, 1) ∧ 62 + 1 = 63 := ⟨by decide +kernel, rfl⟩
theorem dMO_start_63 : decode b_MO_start 63 = .ok (.iconst 1, 1) ∧ 63 + 1 = 64 := ⟨by decide +kernel, rfl⟩
theorem dMO_start_64 : decode b_MO_start 64 = .ok (.iadd, 1) ∧ 64 + 1 = 65 := ⟨by decide +kernel, rfl⟩
theorem dMO_start_65 : decode b_MO_start 65 = .ok (.iastore, 1) ∧ 65 + 1 = 66 := ⟨by decide +kernel, rfl⟩
theorem dMO_start_66 : decode b_MO_start 66 = .ok (.iconst 1, 1) ∧ 66 + 1 = 67 := ⟨by decide +kernel, rfl⟩
theorem dMO_start_67 : decode b_MO_start 67 = .ok (.ireturn, 1) ∧ 67 + 1 = 68 := ⟨by decide +kernel, rfl⟩
theorem dMO_letter_0 : decode b_MO_letter 0 = .ok (.iload_n 1, 1) ∧ 0 + 1 = 1 := ⟨by decide +kernel, rfl⟩
theorem dMO_letter_1 : decode b_MO_letter 1 = .ok (.bipush (33), 2) ∧ 1 + 2 = 3 := ⟨by decide +kernel, rfl⟩
theorem dMO_letter_3 : decode b_MO_letter 3 = .ok (.if_icmp .lt (18), 3) ∧ 3 + 3 = 6 ∧ ((3 : Nat) : Int) + (18) = ((21 : Nat) : Int) := ⟨by decide +kernel, rfl, by decide⟩
theorem dMO_letter_6 : decode b_MO_letter 6 = .ok (.iload_n 1, 1) ∧ 6 + 1 = 7 := ⟨by decide +kernel, rfl⟩
theorem dMO_letter_7 : decode b_MO_letter 7 = .ok (.bipush (126), 2) ∧ 7 + 2 = 9 := ⟨by decide +kernel, rfl⟩
theorem dMO_letter_9 : decode b_MO_letter 9 = .ok (.if_icmp .gt (12), 3) ∧ 9 + 3 = 12 ∧ ((9 : Nat) : Int) + (12) = ((21 : Nat) : Int) := ⟨by decide +kernel, rfl, by decide⟩
theorem dMO_letter_12 : decode b_MO_letter 12 = .ok (.aload_n 0, 1) ∧ 12 + 1 = 13 := ⟨by decide +kernel, rfl⟩
theorem dMO_letter_13 : decode b_MO_letter 13 = .ok (.getfield 134, 3) ∧ 13 + 3 = 16 := ⟨by decide +kernel, rfl⟩
theorem dMO_letter_16 : decode b_MO_letter 16 = .ok (.bipush (16), 2) ∧ 16 + 2 = 18 := ⟨by decide +kernel, rfl⟩
theorem dMO_letter_18 : decode b_MO_letter 18 = .ok (.if_icmp .ne (5), 3) ∧ 18 + 3 = 21 ∧ ((18 : Nat) : Int) + (5) = ((23 : Nat) : Int) := ⟨by decide +kernel, rfl, by decide⟩
theorem dMO_letter_21 : decode b_MO_letter 21 = .ok (.iconst 0, 1) ∧ 21 + 1 = 22 := ⟨by decide +kernel, rfl⟩
theorem dMO_letter_22 : decode b_MO_letter 22 = .ok (.ireturn, 1) ∧ 22 + 1 = 23 := ⟨by decide +kernel, rfl⟩
theorem dMO_letter_23 : decode b_MO_letter 23 = .ok (.aload_n 0, 1) ∧ 23 + 1 = 24 := ⟨by decide +kernel, rfl⟩
theorem dMO_letter_24 : decode b_MO_letter 24 = .ok (.getfield 67, 3) ∧ 24 + 3 = 27 := ⟨by decide +kernel, rfl⟩
theorem dMO_letter_27 : decode b_MO_letter 27 = .ok (.aload_n 0, 1) ∧ 27 + 1 = 28 := ⟨by decide +kernel, rfl⟩
theorem dMO_letter_28 : decode b_MO_letter 28 = .ok (.getfield 134, 3) ∧ 28 + 3 = 31 := ⟨by decide +kernel, rfl⟩
theorem dMO_letter_31 : decode b_MO_letter 31 = .ok (.iload_n 1, 1) ∧ 31 + 1 = 32 := ⟨by decide +kernel, rfl⟩
theorem dMO_letter_32 : decode b_MO_letter 32 = .ok (.iastore, 1) ∧ 32 + 1 = 33 := ⟨by decide +kernel, rfl⟩
theorem dMO_letter_33 : decode b_MO_letter 33 = .ok (.aload_n 0, 1) ∧ 33 + 1 = 34 := ⟨by decide +kernel, rfl⟩
theorem dMO_letter_34 : decode b_MO_letter 34 = .ok (.dup, 1) ∧ 34 + 1 = 35 := ⟨by decide +kernel, rfl⟩
theorem dMO_letter_35 : decode b_MO_letter 35 = .ok (.getfield 134, 3) ∧ 35 + 3 = 38 := ⟨by decide +kernel, rfl⟩
theorem dMO_letter_38 : decode b_MO_letter 38 = .ok (.iconst 1, 1) ∧ 38 + 1 = 39 := ⟨by decide +kernel, rfl⟩
theorem dMO_letter_39 : decode b_MO_letter 39 = .ok (.iadd, 1) ∧ 39 + 1 = 40 := ⟨by decide +kernel, rfl⟩
theorem dMO_letter_40 : decode b_MO_letter 40 = .ok (.putfield 134, 3) ∧ 40 + 3 = 43 := ⟨by decide +kernel, rfl⟩
theorem dMO_letter_43 : decode b_MO_letter 43 = .ok (.iconst 1, 1) ∧ 43 + 1 = 44 := ⟨by decide +kernel, rfl⟩
theorem dMO_letter_44 : decode b_MO_letter 44 = .ok (.ireturn, 1) ∧ 44 + 1 = 45 := ⟨by decide +kernel, rfl⟩
theorem dMO_isPower_0 : decode b_MO_isPower 0 = .ok (.iload_n 0, 1) ∧ 0 + 1 = 1 := ⟨by decide +kernel, rfl⟩
theorem dMO_isPower_1 : decode b_MO_isPower 1 = .ok (.iconst 1, 1) ∧ 1 + 1 = 2 := ⟨by decide +kernel, rfl⟩
theorem dMO_isPower_2 : decode b_MO_isPower 2 = .ok (.if_icmp .eq (37), 3) ∧ 2 + 3 = 5 ∧ ((2 : Nat) : Int) + (37) = ((39 : Nat) : Int) := ⟨by decide +kernel, rfl, by decide⟩
theorem dMO_isPower_5 : decode b_MO_isPower 5 = .ok (.iload_n 0, 1) ∧ 5 + 1 = 6 := ⟨by decide +kernel, rfl⟩
theorem dMO_isPower_6 : decode b_MO_isPower 6 = .ok (.iconst 2, 1) ∧ 6 + 1 = 7 := ⟨by decide +kernel, rfl⟩
theorem dMO_isPower_7 : decode b_MO_isPower 7 = .ok (.if_icmp .eq (32), 3) ∧ 7 + 3 = 10 ∧ ((7 : Nat) : Int) + (32) = ((39 : Nat) : Int) := ⟨by decide +kernel, rfl, by decide⟩
theorem dMO_isPower_10 : decode b_MO_isPower 10 = .ok (.iload_n 0, 1) ∧ 10 + 1 = 11 := ⟨by decide +kernel, rfl⟩
theorem dMO_isPower_11 : decode b_MO_isPower 11 = .ok (.iconst 4, 1) ∧ 11 + 1 = 12 := ⟨by decide +kernel, rfl⟩
theorem dMO_isPower_12 : decode b_MO_isPower 12 = .ok (.if_icmp .eq (27), 3) ∧ 12 + 3 = 15 ∧ ((12 : Nat) : Int) + (27) = ((39 : Nat) : Int) := ⟨by decide +kernel, rfl, by decide⟩
theorem dMO_isPower_15 : decode b_MO_isPower 15 = .ok (.iload_n 0, 1) ∧ 15 + 1 = 16 := ⟨by decide +kernel, rfl⟩
theorem dMO_isPower_16 : decode b_MO_isPower 16 = .ok (.bipush (8), 2) ∧ 16 + 2 = 18 := ⟨by decide +kernel, rfl⟩
theorem dMO_isPower_18 : decode b_MO_isPower 18 = .ok (.if_icmp .eq (21), 3) ∧ 18 + 3 = 21 ∧ ((18 : Nat) : Int) + (21) = ((39 : Nat) : Int) := ⟨by decide +kernel, rfl, by decide⟩
theorem dMO_isPower_21 : decode b_MO_isPower 21 = .ok (.iload_n 0, 1) ∧ 21 + 1 = 22 := ⟨by decide +kernel, rfl⟩
theorem dMO_isPower_22 : decode b_MO_isPower 22 = .ok (.bipush (16), 2) ∧ 22 + 2 = 24 := ⟨by decide +kernel, rfl⟩
theorem dMO_isPower_24 : decode b_MO_isPower 24 = .ok (.if_icmp .eq (15), 3) ∧ 24 + 3 = 27 ∧ ((24 : Nat) : Int) + (15) = ((39 : Nat) : Int) := ⟨by decide +kernel, rfl, by decide⟩
theorem dMO_isPower_27 : decode b_MO_isPower 27 = .ok (.iload_n 0, 1) ∧ 27 + 1 = 28 := ⟨by decide +kernel, rfl⟩
theorem dMO_isPower_28 : decode b_MO_isPower 28 = .ok (.bipush (32), 2) ∧ 28 + 2 = 30 := ⟨by decide +kernel, rfl⟩
theorem dMO_isPower_30 : decode b_MO_isPower 30 = .ok (.if_icmp .eq (9), 3) ∧ 30 + 3 = 33 ∧ ((30 : Nat) : Int) + (9) = ((39 : Nat) : Int) := ⟨by decide +kernel, rfl, by decide⟩
theorem dMO_isPower_33 : decode b_MO_isPower 33 = .ok (.iload_n 0, 1) ∧ 33 + 1 = 34 := ⟨by decide +kernel, rfl⟩
theorem dMO_isPower_34 : decode b_MO_isPower 34 = .ok (.bipush (64), 2) ∧ 34 + 2 = 36 := ⟨by decide +kernel, rfl⟩
theorem dMO_isPower_36 : decode b_MO_isPower 36 = .ok (.if_icmp .ne (7), 3) ∧ 36 + 3 = 39 ∧ ((36 : Nat) : Int) + (7) = ((43 : Nat) : Int) := ⟨by decide +kernel, rfl, by decide⟩
theorem dMO_isPower_39 : decode b_MO_isPower 39 = .ok (.iconst 1, 1) ∧ 39 + 1 = 40 := ⟨by decide +kernel, rfl⟩
theorem dMO_isPower_40 : decode b_MO_isPower 40 = .ok (.goto (4), 3) ∧ 40 + 3 = 43 ∧ ((40 : Nat) : Int) + (4) = ((44 : Nat) : Int) := ⟨by decide +kernel, rfl, by decide⟩
theorem dMO_isPower_43 : decode b_MO_isPower 43 = .ok (.iconst 0, 1) ∧ 43 + 1 = 44 := ⟨by decide +kernel, rfl⟩
theorem dMO_isPower_44 : decode b_MO_isPower 44 = .ok (.ireturn, 1) ∧ 44 + 1 = 45 := ⟨by decide +kernel, rfl⟩
theorem dMO_isSymbol_0 : decode b_MO_isSymbol 0 = .ok (.iload_n 1, 1) ∧ 0 + 1 = 1 := ⟨by decide +kernel, rfl⟩
theorem dMO_isSymbol_1 : decode b_MO_isSymbol 1 = .ok (.lookupswitch (95) #[(-1, 35), (4, 54), (5, 64)], 35) ∧ True := ⟨by decide +kernel, trivial⟩
theorem dMO_isSymbol_36 : decode b_MO_isSymbol 36 = .ok (.iload_n 2, 1) ∧ 36 + 1 = 37 := ⟨by decide +kernel, rfl⟩
theorem dMO_isSymbol_37 : decode b_MO_isSymbol 37 = .ok (.ifCond .ne (16), 3) ∧ 37 + 3 = 40 ∧ ((37 : Nat) : Int) + (16) = ((53 : Nat) : Int) := ⟨by decide +kernel, rfl, by decide⟩
theorem dMO_isSymbol_40 : decode b_MO_isSymbol 40 = .ok (.iload_n 3, 1) ∧ 40 + 1 = 41 := ⟨by decide +kernel, rfl⟩
theorem dMO_isSymbol_41 : decode b_MO_isSymbol 41 = .ok (.ifCond .ne (12), 3) ∧ 41 + 3 = 44 ∧ ((41 : Nat) : Int) + (12) = ((53 : Nat) : Int) := ⟨by decide +kernel, rfl, by decide⟩
theorem dMO_isSymbol_44 : decode b_MO_isSymbol 44 = .ok (.iload 4, 2) ∧ 44 + 2 = 46 := ⟨by decide +kernel, rfl⟩
theorem dMO_isSymbol_46 : decode b_MO_isSymbol 46 = .ok (.ifCond .eq (7), 3) ∧ 46 + 3 = 49 ∧ ((46 : Nat) : Int) + (7) = ((53 : Nat) : Int) := ⟨by decide +kernel, rfl, by decide⟩
theorem dMO_isSymbol_49 : decode b_MO_isSymbol 49 = .ok (.iconst 1, 1) ∧ 49 + 1 = 50 := ⟨by decide +kernel, rfl⟩
theorem dMO_isSymbol_50 : decode b_MO_isSymbol 50 = .ok (.goto (4), 3) ∧ 50 + 3 = 53 ∧ ((50 : Nat) : Int) + (4) = ((54 : Nat) : Int) := ⟨by decide +kernel, rfl, by decide⟩
theorem dMO_isSymbol_53 : decode b_MO_isSymbol 53 = .ok (.iconst 0, 1) ∧ 53 + 1 = 54 := ⟨by decide +kernel, rfl⟩
theorem dMO_isSymbol_54 : decode b_MO_isSymbol 54 = .ok (.ireturn, 1) ∧ 54 + 1 = 55 := ⟨by decide +kernel, rfl⟩
theorem dMO_isSymbol_55 : decode b_MO_isSymbol 55 = .ok (.iload_n 3, 1) ∧ 55 + 1 = 56 := ⟨by decide +kernel, rfl⟩
theorem dMO_isSymbol_56 : decode b_MO_isSymbol 56 = .ok (.ifCond .lt (7), 3) ∧ 56 + 3 = 59 ∧ ((56 : Nat) : Int) + (7) = ((63 : Nat) : Int) := ⟨by decide +kernel, rfl, by decide⟩
theorem dMO_isSymbol_59 : decode b_MO_isSymbol 59 = .ok (.iconst 1, 1) ∧ 59 + 1 = 60 := ⟨by decide +kernel, rfl⟩
theorem dMO_isSymbol_60 : decode b_MO_isSymbol 60 = .ok (.goto (4), 3) ∧ 60 + 3 = 63 ∧ ((60 : Nat) : Int) + (4) = ((64 : Nat) : Int) := ⟨by decide +kernel, rfl, by decide⟩
theorem dMO_isSymbol_63 : decode b_MO_isSymbol 63 = .ok (.iconst 0, 1) ∧ 63 + 1 = 64 := ⟨by decide +kernel, rfl⟩
theorem dMO_isSymbol_64 : decode b_MO_isSymbol 64 = .ok (.ireturn, 1) ∧ 64 + 1 = 65 := ⟨by decide +kernel, rfl⟩
theorem dMO_isSymbol_65 : decode b_MO_isSymbol 65 = .ok (.iload_n 2, 1) ∧ 65 + 1 = 66 := ⟨by decide +kernel, rfl⟩
theorem dMO_isSymbol_66 : decode b_MO_isSymbol 66 = .ok (.invokestatic 141, 3) ∧ 66 + 3 = 69 := ⟨by decide +kernel, rfl⟩
theorem dMO_isSymbol_69 : decode b_MO_isSymbol 69 = .ok (.ifCond .eq (25), 3) ∧ 69 + 3 = 72 ∧ ((69 : Nat) : Int) + (25) = ((94 : Nat) : Int) := ⟨by decide +kernel, rfl, by decide⟩
theorem dMO_isSymbol_72 : decode b_MO_isSymbol 72 = .ok (.iload_n 3, 1) ∧ 72 + 1 = 73 := ⟨by decide +kernel, rfl⟩
theorem dMO_isSymbol_73 : decode b_MO_isSymbol 73 = .ok (.iconst 1, 1) ∧ 73 + 1 = 74 := ⟨by decide +kernel, rfl⟩
theorem dMO_isSymbol_74 : decode b_MO_isSymbol 74 = .ok (.if_icmp .lt (20), 3) ∧ 74 + 3 = 77 ∧ ((74 : Nat) : Int) + (20) = ((94 : Nat) : Int) := ⟨by decide +kernel, rfl, by decide⟩
theorem dMO_isSymbol_77 : decode b_MO_isSymbol 77 = .ok (.iload_n 3, 1) ∧ 77 + 1 = 78 := ⟨by decide +kernel, rfl⟩
theorem dMO_isSymbol_78 : decode b_MO_isSymbol 78 = .ok (.sipush (4096), 3) ∧ 78 + 3 = 81 := ⟨by decide +kernel, rfl⟩
theorem dMO_isSymbol_81 : decode b_MO_isSymbol 81 = .ok (.if_icmp .gt (13), 3) ∧ 81 + 3 = 84 ∧ ((81 : Nat) : Int) + (13) = ((94 : Nat) : Int) := ⟨by decide +kernel, rfl, by decide⟩
theorem dMO_isSymbol_84 : decode b_MO_isSymbol 84 = .ok (.iload 4, 2) ∧ 84 + 2 = 86 := ⟨by decide +kernel, rfl⟩
theorem dMO_isSymbol_86 : decode b_MO_isSymbol 86 = .ok (.iconst 1, 1) ∧ 86 + 1 = 87 := ⟨by decide +kernel, rfl⟩
theorem dMO_isSymbol_87 : decode b_MO_isSymbol 87 = .ok (.if_icmp .ne (7), 3) ∧ 87 + 3 = 90 ∧ ((87 : Nat) : Int) + (7) = ((94 : Nat) : Int) := ⟨by decide +kernel, rfl, by decide⟩
theorem dMO_isSymbol_90 : decode b_MO_isSymbol 90 = .ok (.iconst 1, 1) ∧ 90 + 1 = 91 := ⟨by decide +kernel, rfl⟩
theorem dMO_isSymbol_91 : decode b_MO_isSymbol 91 = .ok (.goto (4), 3) ∧ 91 + 3 = 94 ∧ ((91 : Nat) : Int) + (4) = ((95 : Nat) : Int) := ⟨by decide +kernel, rfl, by decide⟩
theorem dMO_isSymbol_94 : decode b_MO_isSymbol 94 = .ok (.iconst 0, 1) ∧ 94 + 1 = 95 := ⟨by decide +kernel, rfl⟩
theorem dMO_isSymbol_95 : decode b_MO_isSymbol 95 = .ok (.ireturn, 1) ∧ 95 + 1 = 96 := ⟨by decide +kernel, rfl⟩
theorem dMO_isSymbol_96 : decode b_MO_isSymbol 96 = .ok (.iload_n 2, 1) ∧ 96 + 1 = 97 := ⟨by decide +kernel, rfl⟩
theorem dMO_isSymbol_97 : decode b_MO_isSymbol 97 = .ok (.ifCond .lt (11), 3) ∧ 97 + 3 = 100 ∧ ((97 : Nat) : Int) + (11) = ((108 : Nat) : Int) := ⟨by decide +kernel, rfl, by decide⟩
theorem dMO_isSymbol_100 : decode b_MO_isSymbol 100 = .ok (.iload_n 3, 1) ∧ 100 + 1 = 101 := ⟨by decide +kernel, rfl⟩
theorem dMO_isSymbol_101 : decode b_MO_isSymbol 101 = .ok (.ifCond .lt (7), 3) ∧ 101 + 3 = 104 ∧ ((101 : Nat) : Int) + (7) = ((108 : Nat) : Int) := ⟨by decide +kernel, rfl, by decide⟩
theorem dMO_isSymbol_104 : decode b_MO_isSymbol 104 = .ok (.iconst 1, 1) ∧ 104 + 1 = 105 := ⟨by decide +kernel, rfl⟩
theorem dMO_isSymbol_105 : decode b_MO_isSymbol 105 = .ok (.goto (4), 3) ∧ 105 + 3 = 108 ∧ ((105 : Nat) : Int) + (4) = ((109 : Nat) : Int) := ⟨by decide +kernel, rfl, by decide⟩
theorem dMO_isSymbol_108 : decode b_MO_isSymbol 108 = .ok (.iconst 0, 1) ∧ 108 + 1 = 109 := ⟨by decide +kernel, rfl⟩
theorem dMO_isSymbol_109 : decode b_MO_isSymbol 109 = .ok (.ireturn, 1) ∧ 109 + 1 = 110 := ⟨by decide +kernel, rfl⟩
theorem dMO_isSameName_0 : decode b_MO_isSameName 0 = .ok (.aload_n 0, 1) ∧ 0 + 1 = 1 := ⟨by decide +kernel, rfl⟩
theorem dMO_isSameName_1 : decode b_MO_isSameName 1 = .ok (.getfield 40, 3) ∧ 1 + 3 = 4 := ⟨by decide +kernel, rfl⟩
theorem dMO_isSameName_4 : decode b_MO_isSameName 4 = .ok (.iload_n 1, 1) ∧ 4 + 1 = 5 := ⟨by decide +kernel, rfl⟩
theorem dMO_isSameName_5 : decode b_MO_isSameName 5 = .ok (.iaload, 1) ∧ 5 + 1 = 6 := ⟨by decide +kernel, rfl⟩
theorem dMO_isSameName_6 : decode b_MO_isSameName 6 = .ok (.aload_n 0, 1) ∧ 6 + 1 = 7 := ⟨by decide +kernel, rfl⟩
theorem dMO_isSameName_7 : decode b_MO_isSameName 7 = .ok (.getfield 40, 3) ∧ 7 + 3 = 10 := ⟨by decide +kernel, rfl⟩
theorem dMO_isSameName_10 : decode b_MO_isSameName 10 = .ok (.iload_n 2, 1) ∧ 10 + 1 = 11 := ⟨by decide +kernel, rfl⟩
theorem dMO_isSameName_11 : decode b_MO_isSameName 11 = .ok (.iaload, 1) ∧ 11 + 1 = 12 := ⟨by decide +kernel, rfl⟩
theorem dMO_isSameName_12 : decode b_MO_isSameName 12 = .ok (.if_icmp .ne (7), 3) ∧ 12 + 3 = 15 ∧ ((12 : Nat) : Int) + (7) = ((19 : Nat) : Int) := ⟨by decide +kernel, rfl, by decide⟩
theorem dMO_isSameName_15 : decode b_MO_isSameName 15 = .ok (.iconst 1, 1) ∧ 15 + 1 = 16 := ⟨by decide +kernel, rfl⟩
theorem dMO_isSameName_16 : decode b_MO_isSameName 16 = .ok (.goto (4), 3) ∧ 16 + 3 = 19 ∧ ((16 : Nat) : Int) + (4) = ((20 : Nat) : Int) := ⟨by decide +kernel, rfl, by decide⟩
theorem dMO_isSameName_19 : decode b_MO_isSameName 19 = .ok (.iconst 0, 1) ∧ 19 + 1 = 20 := ⟨by decide +kernel, rfl⟩
theorem dMO_isSameName_20 : decode b_MO_isSameName 20 = .ok (.istore_n 3, 1) ∧ 20 + 1 = 21 := ⟨by decide +kernel, rfl⟩
theorem dMO_isSameName_21 : decode b_MO_isSameName 21 = .ok (.iconst 0, 1) ∧ 21 + 1 = 22 := ⟨by decide +kernel, rfl⟩
theorem dMO_isSameName_22 : decode b_MO_isSameName 22 = .ok (.istore 4, 2) ∧ 22 + 2 = 24 := ⟨by decide +kernel, rfl⟩
theorem dMO_isSameName_24 : decode b_MO_isSameName 24 = .ok (.iload 4, 2) ∧ 24 + 2 = 26 := ⟨by decide +kernel, rfl⟩
theorem dMO_isSameName_26 : decode b_MO_isSameName 26 = .ok (.aload_n 0, 1) ∧ 26 + 1 = 27 := ⟨by decide +kernel, rfl⟩
theorem dMO_isSameName_27 : decode b_MO_isSameName 27 = .ok (.getfield 40, 3) ∧ 27 + 3 = 30 := ⟨by decide +kernel, rfl⟩
theorem dMO_isSameName_30 : decode b_MO_isSameName 30 = .ok (.iload_n 1, 1) ∧ 30 + 1 = 31 := ⟨by decide +kernel, rfl⟩
theorem dMO_isSameName_31 : decode b_MO_isSameName 31 = .ok (.iaload, 1) ∧ 31 + 1 = 32 := ⟨by decide +kernel, rfl⟩
theorem dMO_isSameName_32 : decode b_MO_isSameName 32 = .ok (.if_icmp .ge (46), 3) ∧ 32 + 3 = 35 ∧ ((32 : Nat) : Int) + (46) = ((78 : Nat) : Int) := ⟨by decide +kernel, rfl, by decide⟩
theorem dMO_isSameName_35 : decode b_MO_isSameName 35 = .ok (.iload_n 3, 1) ∧ 35 + 1 = 36 := ⟨by decide +kernel, rfl⟩
theorem dMO_isSameName_36 : decode b_MO_isSameName 36 = .ok (.ifCond .eq (42), 3) ∧ 36 + 3 = 39 ∧ ((36 : Nat) : Int) + (42) = ((78 : Nat) : Int) := ⟨by decide +kernel, rfl, by decide⟩
theorem dMO_isSameName_39 : decode b_MO_isSameName 39 = .ok (.aload_n 0, 1) ∧ 39 + 1 = 40 := ⟨by decide +kernel, rfl⟩
theorem dMO_isSameName_40 : decode b_MO_isSameName 40 = .ok (.getfield 43, 3) ∧ 40 + 3 = 43 := ⟨by decide +kernel, rfl⟩
theorem dMO_isSameName_43 : decode b_MO_isSameName 43 = .ok (.bipush (16), 2) ∧ 43 + 2 = 45 := ⟨by decide +kernel, rfl⟩
theorem dMO_isSameName_45 : decode b_MO_isSameName 45 = .ok (.iload_n 1, 1) ∧ 45 + 1 = 46 := ⟨by decide +kernel, rfl⟩
theorem dMO_isSameName_46 : decode b_MO_isSameName 46 = .ok (.imul, 1) ∧ 46 + 1 = 47 := ⟨by decide +kernel, rfl⟩
theorem dMO_isSameName_47 : decode b_MO_isSameName 47 = .ok (.iload 4, 2) ∧ 47 + 2 = 49 := ⟨by decide +kernel, rfl⟩
theorem dMO_isSameName_49 : decode b_MO_isSameName 49 = .ok (.iadd, 1) ∧ 49 + 1 = 50 := ⟨by decide +kernel, rfl⟩
theorem dMO_isSameName_50 : decode b_MO_isSameName 50 = .ok (.iaload, 1) ∧ 50 + 1 = 51 := ⟨by decide +kernel, rfl⟩
theorem dMO_isSameName_51 : decode b_MO_isSameName 51 = .ok (.aload_n 0, 1) ∧ 51 + 1 = 52 := ⟨by decide +kernel, rfl⟩
theorem dMO_isSameName_52 : decode b_MO_isSameName 52 = .ok (.getfield 43, 3) ∧ 52 + 3 = 55 := ⟨by decide +kernel, rfl⟩
theorem dMO_isSameName_55 : decode b_MO_isSameName 55 = .ok (.bipush (16), 2) ∧ 55 + 2 = 57 := ⟨by decide +kernel, rfl⟩
theorem dMO_isSameName_57 : decode b_MO_isSameName 57 = .ok (.iload_n 2, 1) ∧ 57 + 1 = 58 := ⟨by decide +kernel, rfl⟩
theorem dMO_isSameName_58 : decode b_MO_isSameName 58 = .ok (.imul, 1) ∧ 58 + 1 = 59 := ⟨by decide +kernel, rfl⟩
theorem dMO_isSameName_59 : decode b_MO_isSameName 59 = .ok (.iload 4, 2) ∧ 59 + 2 = 61 := ⟨by decide +kernel, rfl⟩
theorem dMO_isSameName_61 : decode b_MO_isSameName 61 = .ok (.iadd, 1) ∧ 61 + 1 = 62 := ⟨by decide +kernel, rfl⟩
theorem dMO_isSameName_62 : decode b_MO_isSameName 62 = .ok (.iaload, 1) ∧ 62 + 1 = 63 := ⟨by decide +kernel, rfl⟩
theorem dMO_isSameName_63 : decode b_MO_isSameName 63 = .ok (.if_icmp .ne (7), 3) ∧ 63 + 3 = 66 ∧ ((63 : Nat) : Int) + (7) = ((70 : Nat) : Int) := ⟨by decide +kernel, rfl, by decide⟩
theorem dMO_isSameName_66 : decode b_MO_isSameName 66 = .ok (.iconst 1, 1) ∧ 66 + 1 = 67 := ⟨by decide +kernel, rfl⟩
theorem dMO_isSameName_67 : decode b_MO_isSameName 67 = .ok (.goto (4), 3) ∧ 67 + 3 = 70 ∧ ((67 : Nat) : Int) + (4) = ((71 : Nat) : Int) := ⟨by decide +kernel, rfl, by decide⟩
theorem dMO_isSameName_70 : decode b_MO_isSameName 70 = .ok (.iconst 0, 1) ∧ 70 + 1 = 71 := ⟨by decide +kernel, rfl⟩
theorem dMO_isSameName_71 : decode b_MO_isSameName 71 = .ok (.istore_n 3, 1) ∧ 71 + 1 = 72 := ⟨by decide +kernel, rfl⟩
theorem dMO_isSameName_72 : decode b_MO_isSameName 72 = .ok (.iinc 4 (1), 3) ∧ 72 + 3 = 75 := ⟨by decide +kernel, rfl⟩
theorem dMO_isSameName_75 : decode b_MO_isSameName 75 = .ok (.goto (-51), 3) ∧ 75 + 3 = 78 ∧ ((75 : Nat) : Int) + (-51) = ((24 : Nat) : Int) := ⟨by decide +kernel, rfl, by decide⟩
theorem dMO_isSameName_78 : decode b_MO_isSameName 78 = .ok (.iload_n 3, 1) ∧ 78 + 1 = 79 := ⟨by decide +kernel, rfl⟩
theorem dMO_isSameName_79 : decode b_MO_isSameName 79 = .ok (.ireturn, 1) ∧ 79 + 1 = 80 := ⟨by decide +kernel, rfl⟩
theorem dMO_symbol_0 : decode b_MO_symbol 0 = .ok (.aload_n 0, 1) ∧ 0 + 1 = 1 := ⟨by decide +kernel, rfl⟩
theorem dMO_symbol_1 : decode b_MO_symbol 1 = .ok (.getfield 134, 3) ∧ 1 + 3 = 4 := ⟨by decide +kernel, rfl⟩
theorem dMO_symbol_4 : decode b_MO_symbol 4 = .ok (.istore 6, 2) ∧ 4 + 2 = 6 := ⟨by decide +kernel, rfl⟩
theorem dMO_symbol_6 : decode b_MO_symbol 6 = .ok (.aload_n 0, 1) ∧ 6 + 1 = 7 := ⟨by decide +kernel, rfl⟩
theorem dMO_symbol_7 : decode b_MO_symbol 7 = .ok (.iconst 0, 1) ∧ 7 + 1 = 8 := ⟨by decide +kernel, rfl⟩
theorem dMO_symbol_8 : decode b_MO_symbol 8 = .ok (.putfield 134, 3) ∧ 8 + 3 = 11 := ⟨by decide +kernel, rfl⟩
theorem dMO_symbol_11 : decode b_MO_symbol 11 = .ok (.aload_n 0, 1) ∧ 11 + 1 = 12 := ⟨by decide +kernel, rfl⟩
theorem dMO_symbol_12 : decode b_MO_symbol 12 = .ok (.getfield 46, 3) ∧ 12 + 3 = 15 := ⟨by decide +kernel, rfl⟩
theorem dMO_symbol_15 : decode b_MO_symbol 15 = .ok (.iconst 0, 1) ∧ 15 + 1 = 16 := ⟨by decide +kernel, rfl⟩
theorem dMO_symbol_16 : decode b_MO_symbol 16 = .ok (.iaload, 1) ∧ 16 + 1 = 17 := ⟨by decide +kernel, rfl⟩
theorem dMO_symbol_17 : decode b_MO_symbol 17 = .ok (.istore 7, 2) ∧ 17 + 2 = 19 := ⟨by decide +kernel, rfl⟩
theorem dMO_symbol_19 : decode b_MO_symbol 19 = .ok (.iload 7, 2) ∧ 19 + 2 = 21 := ⟨by decide +kernel, rfl⟩
theorem dMO_symbol_21 : decode b_MO_symbol 21 = .ok (.bipush (100), 2) ∧ 21 + 2 = 23 := ⟨by decide +kernel, rfl⟩
theorem dMO_symbol_23 : decode b_MO_symbol 23 = .ok (.if_icmp .eq (40), 3) ∧ 23 + 3 = 26 ∧ ((23 : Nat) : Int) + (40) = ((63 : Nat) : Int) := ⟨by decide +kernel, rfl, by decide⟩
theorem dMO_symbol_26 : decode b_MO_symbol 26 = .ok (.iload 6, 2) ∧ 26 + 2 = 28 := ⟨by decide +kernel, rfl⟩
theorem dMO_symbol_28 : decode b_MO_symbol 28 = .ok (.ifCond .eq (35), 3) ∧ 28 + 3 = 31 ∧ ((28 : Nat) : Int) + (35) = ((63 : Nat) : Int) := ⟨by decide +kernel, rfl, by decide⟩
theorem dMO_symbol_31 : decode b_MO_symbol 31 = .ok (.iload_n 1, 1) ∧ 31 + 1 = 32 := ⟨by decide +kernel, rfl⟩
theorem dMO_symbol_32 : decode b_MO_symbol 32 = .ok (.iconst (-1), 1) ∧ 32 + 1 = 33 := ⟨by decide +kernel, rfl⟩
theorem dMO_symbol_33 : decode b_MO_symbol 33 = .ok (.if_icmp .lt (30), 3) ∧ 33 + 3 = 36 ∧ ((33 : Nat) : Int) + (30) = ((63 : Nat) : Int) := ⟨by decide +kernel, rfl, by decide⟩
theorem dMO_symbol_36 : decode b_MO_symbol 36 = .ok (.iload_n 1, 1) ∧ 36 + 1 = 37 := ⟨by decide +kernel, rfl⟩
theorem dMO_symbol_37 : decode b_MO_symbol 37 = .ok (.iconst 5, 1) ∧ 37 + 1 = 38 := ⟨by decide +kernel, rfl⟩
theorem dMO_symbol_38 : decode b_MO_symbol 38 = .ok (.if_icmp .gt (25), 3) ∧ 38 + 3 = 41 ∧ ((38 : Nat) : Int) + (25) = ((63 : Nat) : Int) := ⟨by decide +kernel, rfl, by decide⟩
theorem dMO_symbol_41 : decode b_MO_symbol 41 = .ok (.iload 4, 2) ∧ 41 + 2 = 43 := ⟨by decide +kernel, rfl⟩
theorem dMO_symbol_43 : decode b_MO_symbol 43 = .ok (.ifCond .lt (20), 3) ∧ 43 + 3 = 46 ∧ ((43 : Nat) : Int) + (20) = ((63 : Nat) : Int) := ⟨by decide +kernel, rfl, by decide⟩
theorem dMO_symbol_46 : decode b_MO_symbol 46 = .ok (.iload 4, 2) ∧ 46 + 2 = 48 := ⟨by decide +kernel, rfl⟩
theorem dMO_symbol_48 : decode b_MO_symbol 48 = .ok (.iconst 2, 1) ∧ 48 + 1 = 49 := ⟨by decide +kernel, rfl⟩
theorem dMO_symbol_49 : decode b_MO_symbol 49 = .ok (.if_icmp .gt (14), 3) ∧ 49 + 3 = 52 ∧ ((49 : Nat) : Int) + (14) = ((63 : Nat) : Int) := ⟨by decide +kernel, rfl, by decide⟩
theorem dMO_symbol_52 : decode b_MO_symbol 52 = .ok (.iload 5, 2) ∧ 52 + 2 = 54 := ⟨by decide +kernel, rfl⟩
theorem dMO_symbol_54 : decode b_MO_symbol 54 = .ok (.ifCond .lt (9), 3) ∧ 54 + 3 = 57 ∧ ((54 : Nat) : Int) + (9) = ((63 : Nat) : Int) := ⟨by decide +kernel, rfl, by decide⟩
theorem dMO_symbol_57 : decode b_MO_symbol 57 = .ok (.iload 5, 2) ∧ 57 + 2 = 59 := ⟨by decide +kernel, rfl⟩
theorem dMO_symbol_59 : decode b_MO_symbol 59 = .ok (.iconst 2, 1) ∧ 59 + 1 = 60 := ⟨by decide +kernel, rfl⟩
theorem dMO_symbol_60 : decode b_MO_symbol 60 = .ok (.if_icmp .le (5), 3) ∧ 60 + 3 = 63 ∧ ((60 : Nat) : Int) + (5) = ((65 : Nat) : Int) := ⟨by decide +kernel, rfl, by decide⟩
theorem dMO_symbol_63 : decode b_MO_symbol 63 = .ok (.iconst (-1), 1) ∧ 63 + 1 = 64 := ⟨by decide +kernel, rfl⟩
theorem dMO_symbol_64 : decode b_MO_symbol 64 = .ok (.ireturn, 1) ∧ 64 + 1 = 65 := ⟨by decide +kernel, rfl⟩
theorem dMO_symbol_65 : decode b_MO_symbol 65 = .ok (.aload_n 0, 1) ∧ 65 + 1 = 66 := ⟨by decide +kernel, rfl⟩
theorem dMO_symbol_66 : decode b_MO_symbol 66 = .ok (.getfield 40, 3) ∧ 66 + 3 = 69 := ⟨by decide +kernel, rfl⟩
theorem dMO_symbol_69 : decode b_MO_symbol 69 = .ok (.iload 7, 2) ∧ 69 + 2 = 71 := ⟨by decide +kernel, rfl⟩
theorem dMO_symbol_71 : decode b_MO_symbol 71 = .ok (.iload 6, 2) ∧ 71 + 2 = 73 := ⟨by decide +kernel, rfl⟩
theorem dMO_symbol_73 : decode b_MO_symbol 73 = .ok (.iastore, 1) ∧ 73 + 1 = 74 := ⟨by decide +kernel, rfl⟩
theorem dMO_symbol_74 : decode b_MO_symbol 74 = .ok (.iconst 0, 1) ∧ 74 + 1 = 75 := ⟨by decide +kernel, rfl⟩
theorem dMO_symbol_75 : decode b_MO_symbol 75 = .ok (.istore 8, 2) ∧ 75 + 2 = 77 := ⟨by decide +kernel, rfl⟩
theorem dMO_symbol_77 : decode b_MO_symbol 77 = .ok (.iload 8, 2) ∧ 77 + 2 = 79 := ⟨by decide +kernel, rfl⟩
theorem dMO_symbol_79 : decode b_MO_symbol 79 = .ok (.iload 6, 2) ∧ 79 + 2 = 81 := ⟨by decide +kernel, rfl⟩
theorem dMO_symbol_81 : decode b_MO_symbol 81 = .ok (.if_icmp .ge (29), 3) ∧ 81 + 3 = 84 ∧ ((81 : Nat) : Int) + (29) = ((110 : Nat) : Int) := ⟨by decide +kernel, rfl, by decide⟩
theorem dMO_symbol_84 : decode b_MO_symbol 84 = .ok (.aload_n 0, 1) ∧ 84 + 1 = 85 := ⟨by decide +kernel, rfl⟩
theorem dMO_symbol_85 : decode b_MO_symbol 85 = .ok (.getfield 43, 3) ∧ 85 + 3 = 88 := ⟨by decide +kernel, rfl⟩
theorem dMO_symbol_88 : decode b_MO_symbol 88 = .ok (.bipush (16), 2) ∧ 88 + 2 = 90 := ⟨by decide +kernel, rfl⟩
theorem dMO_symbol_90 : decode b_MO_symbol 90 = .ok (.iload 7, 2) ∧ 90 + 2 = 92 := ⟨by decide +kernel, rfl⟩
theorem dMO_symbol_92 : decode b_MO_symbol 92 = .ok (.imul, 1) ∧ 92 + 1 = 93 := ⟨by decide +kernel, rfl⟩
theorem dMO_symbol_93 : decode b_MO_symbol 93 = .ok (.iload 8, 2) ∧ 93 + 2 = 95 := ⟨by decide +kernel, rfl⟩
theorem dMO_symbol_95 : decode b_MO_symbol 95 = .ok (.iadd, 1) ∧ 95 + 1 = 96 := ⟨by decide +kernel, rfl⟩
theorem dMO_symbol_96 : decode b_MO_symbol 96 = .ok (.aload_n 0, 1) ∧ 96 + 1 = 97 := ⟨by decide +kernel, rfl⟩
theorem dMO_symbol_97 : decode b_MO_symbol 97 = .ok (.getfield 67, 3) ∧ 97 + 3 = 100 := ⟨by decide +kernel, rfl⟩
theorem dMO_symbol_100 : decode b_MO_symbol 100 = .ok (.iload 8, 2) ∧ 100 + 2 = 102 := ⟨by decide +kernel, rfl⟩
theorem dMO_symbol_102 : decode b_MO_symbol 102 = .ok (.iaload, 1) ∧ 102 + 1 = 103 := ⟨by decide +kernel, rfl⟩
theorem dMO_symbol_103 : decode b_MO_symbol 103 = .ok (.iastore, 1) ∧ 103 + 1 = 104 := ⟨by decide +kernel, rfl⟩
theorem dMO_symbol_104 : decode b_MO_symbol 104 = .ok (.iinc 8 (1), 3) ∧ 104 + 3 = 107 := ⟨by decide +kernel, rfl⟩
theorem dMO_symbol_107 : decode b_MO_symbol 107 = .ok (.goto (-30), 3) ∧ 107 + 3 = 110 ∧ ((107 : Nat) : Int) + (-30) = ((77 : Nat) : Int) := ⟨by decide +kernel, rfl, by decide⟩
theorem dMO_symbol_110 : decode b_MO_symbol 110 = .ok (.iconst 0, 1) ∧ 110 + 1 = 111 := ⟨by decide +kernel, rfl⟩
theorem dMO_symbol_111 : decode b_MO_symbol 111 = .ok (.istore 8, 2) ∧ 111 + 2 = 113 := ⟨by decide +kernel, rfl⟩
theorem dMO_symbol_113 : decode b_MO_symbol 113 = .ok (.iload 8, 2) ∧ 113 + 2 = 115 := ⟨by decide +kernel, rfl⟩
theorem dMO_symbol_115 : decode b_MO_symbol 115 = .ok (.iload 7, 2) ∧ 115 + 2 = 117 := ⟨by decide +kernel, rfl⟩
theorem dMO_symbol_117 : decode b_MO_symbol 117 = .ok (.if_icmp .ge (37), 3) ∧ 117 + 3 = 120 ∧ ((117 : Nat) : Int) + (37) = ((154 : Nat) : Int) := ⟨by decide +kernel, rfl, by decide⟩
theorem dMO_symbol_120 : decode b_MO_symbol 120 = .ok (.iload 4, 2) ∧ 120 + 2 = 122 := ⟨by decide +kernel, rfl⟩
theorem dMO_symbol_122 : decode b_MO_symbol 122 = .ok (.ifCond .eq (26), 3) ∧ 122 + 3 = 125 ∧ ((122 : Nat) : Int) + (26) = ((148 : Nat) : Int) := ⟨by decide +kernel, rfl, by decide⟩
theorem dMO_symbol_125 : decode b_MO_symbol 125 = .ok (.aload_n 0, 1) ∧ 125 + 1 = 126 := ⟨by decide +kernel, rfl⟩
theorem dMO_symbol_126 : decode b_MO_symbol 126 = .ok (.getfield 34, 3) ∧ 126 + 3 = 129 := ⟨by decide +kernel, rfl⟩
theorem dMO_symbol_129 : decode b_MO_symbol 129 = .ok (.iload 8, 2) ∧ 129 + 2 = 131 := ⟨by decide +kernel, rfl⟩
theorem dMO_symbol_131 : decode b_MO_symbol 131 = .ok (.iaload, 1) ∧ 131 + 1 = 132 := ⟨by decide +kernel, rfl⟩
theorem dMO_symbol_132 : decode b_MO_symbol 132 = .ok (.ifCond .eq (16), 3) ∧ 132 + 3 = 135 ∧ ((132 : Nat) : Int) + (16) = ((148 : Nat) : Int) := ⟨by decide +kernel, rfl, by decide⟩
theorem dMO_symbol_135 : decode b_MO_symbol 135 = .ok (.aload_n 0, 1) ∧ 135 + 1 = 136 := ⟨by decide +kernel, rfl⟩
theorem dMO_symbol_136 : decode b_MO_symbol 136 = .ok (.iload 7, 2) ∧ 136 + 2 = 138 := ⟨by decide +kernel, rfl⟩
theorem dMO_symbol_138 : decode b_MO_symbol 138 = .ok (.iload 8, 2) ∧ 138 + 2 = 140 := ⟨by decide +kernel, rfl⟩
theorem dMO_symbol_140 : decode b_MO_symbol 140 = .ok (.invokevirtual 144, 3) ∧ 140 + 3 = 143 := ⟨by decide +kernel, rfl⟩
theorem dMO_symbol_143 : decode b_MO_symbol 143 = .ok (.ifCond .eq (5), 3) ∧ 143 + 3 = 146 ∧ ((143 : Nat) : Int) + (5) = ((148 : Nat) : Int) := ⟨by decide +kernel, rfl, by decide⟩
theorem dMO_symbol_146 : decode b_MO_symbol 146 = .ok (.iconst (-1), 1) ∧ 146 + 1 = 147 := ⟨by decide +kernel, rfl⟩
theorem dMO_symbol_147 : decode b_MO_symbol 147 = .ok (.ireturn, 1) ∧ 147 + 1 = 148 := ⟨by decide +kernel, rfl⟩
theorem dMO_symbol_148 : decode b_MO_symbol 148 = .ok (.iinc 8 (1), 3) ∧ 148 + 3 = 151 := ⟨by decide +kernel, rfl⟩
theorem dMO_symbol_151 : decode b_MO_symbol 151 = .ok (.goto (-38), 3) ∧ 151 + 3 = 154 ∧ ((151 : Nat) : Int) + (-38) = ((113 : Nat) : Int) := ⟨by decide +kernel, rfl, by decide⟩
theorem dMO_symbol_154 : decode b_MO_symbol 154 = .ok (.aload_n 0, 1) ∧ 154 + 1 = 155 := ⟨by decide +kernel, rfl⟩
theorem dMO_symbol_155 : decode b_MO_symbol 155 = .ok (.iload_n 1, 1) ∧ 155 + 1 = 156 := ⟨by decide +kernel, rfl⟩
theorem dMO_symbol_156 : decode b_MO_symbol 156 = .ok (.iload_n 2, 1) ∧ 156 + 1 = 157 := ⟨by decide +kernel, rfl⟩
theorem dMO_symbol_157 : decode b_MO_symbol 157 = .ok (.iload_n 3, 1) ∧ 157 + 1 = 158 := ⟨by decide +kernel, rfl⟩
theorem dMO_symbol_158 : decode b_MO_symbol 158 = .ok (.iload 4, 2) ∧ 158 + 2 = 160 := ⟨by decide +kernel, rfl⟩
theorem dMO_symbol_160 : decode b_MO_symbol 160 = .ok (.invokevirtual 148, 3) ∧ 160 + 3 = 163 := ⟨by decide +kernel, rfl⟩
theorem dMO_symbol_163 : decode b_MO_symbol 163 = .ok (.ifCond .ne (5), 3) ∧ 163 + 3 = 166 ∧ ((163 : Nat) : Int) + (5) = ((168 : Nat) : Int) := ⟨by decide +kernel, rfl, by decide⟩
theorem dMO_symbol_166 : decode b_MO_symbol 166 = .ok (.iconst (-1), 1) ∧ 166 + 1 = 167 := ⟨by decide +kernel, rfl⟩
theorem dMO_symbol_167 : decode b_MO_symbol 167 = .ok (.ireturn, 1) ∧ 167 + 1 = 168 := ⟨by decide +kernel, rfl⟩
theorem dMO_symbol_168 : decode b_MO_symbol 168 = .ok (.aload_n 0, 1) ∧ 168 + 1 = 169 := ⟨by decide +kernel, rfl⟩
theorem dMO_symbol_169 : decode b_MO_symbol 169 = .ok (.getfield 25, 3) ∧ 169 + 3 = 172 := ⟨by decide +kernel, rfl⟩
theorem dMO_symbol_172 : decode b_MO_symbol 172 = .ok (.iload 7, 2) ∧ 172 + 2 = 174 := ⟨by decide +kernel, rfl⟩
theorem dMO_symbol_174 : decode b_MO_symbol 174 = .ok (.iload_n 1, 1) ∧ 174 + 1 = 175 := ⟨by decide +kernel, rfl⟩
theorem dMO_symbol_175 : decode b_MO_symbol 175 = .ok (.iastore, 1) ∧ 175 + 1 = 176 := ⟨by decide +kernel, rfl⟩
theorem dMO_symbol_176 : decode b_MO_symbol 176 = .ok (.aload_n 0, 1) ∧ 176 + 1 = 177 := ⟨by decide +kernel, rfl⟩
theorem dMO_symbol_177 : decode b_MO_symbol 177 = .ok (.getfield 28, 3) ∧ 177 + 3 = 180 := ⟨by decide +kernel, rfl⟩
theorem dMO_symbol_180 : decode b_MO_symbol 180 = .ok (.iload 7, 2) ∧ 180 + 2 = 182 := ⟨by decide +kernel, rfl⟩
theorem dMO_symbol_182 : decode b_MO_symbol 182 = .ok (.iload_n 2, 1) ∧ 182 + 1 = 183 := ⟨by decide +kernel, rfl⟩
theorem dMO_symbol_183 : decode b_MO_symbol 183 = .ok (.iastore, 1) ∧ 183 + 1 = 184 := ⟨by decide +kernel, rfl⟩
theorem dMO_symbol_184 : decode b_MO_symbol 184 = .ok (.aload_n 0, 1) ∧ 184 + 1 = 185 := ⟨by decide +kernel, rfl⟩
theorem dMO_symbol_185 : decode b_MO_symbol 185 = .ok (.getfield 31, 3) ∧ 185 + 3 = 188 := ⟨by decide +kernel, rfl⟩
theorem dMO_symbol_188 : decode b_MO_symbol 188 = .ok (.iload 7, 2) ∧ 188 + 2 = 190 := ⟨by decide +kernel, rfl⟩
theorem dMO_symbol_190 : decode b_MO_symbol 190 = .ok (.iload_n 3, 1) ∧ 190 + 1 = 191 := ⟨by decide +kernel, rfl⟩
theorem dMO_symbol_191 : decode b_MO_symbol 191 = .ok (.iastore, 1) ∧ 191 + 1 = 192 := ⟨by decide +kernel, rfl⟩
theorem dMO_symbol_192 : decode b_MO_symbol 192 = .ok (.aload_n 0, 1) ∧ 192 + 1 = 193 := ⟨by decide +kernel, rfl⟩
theorem dMO_symbol_193 : decode b_MO_symbol 193 = .ok (.getfield 34, 3) ∧ 193 + 3 = 196 := ⟨by decide +kernel, rfl⟩
theorem dMO_symbol_196 : decode b_MO_symbol 196 = .ok (.iload 7, 2) ∧ 196 + 2 = 198 := ⟨by decide +kernel, rfl⟩
theorem dMO_symbol_198 : decode b_MO_symbol 198 = .ok (.iload 4, 2) ∧ 198 + 2 = 200 := ⟨by decide +kernel, rfl⟩
theorem dMO_symbol_200 : decode b_MO_symbol 200 = .ok (.iastore, 1) ∧ 200 + 1 = 201 := ⟨by decide +kernel, rfl⟩
theorem dMO_symbol_201 : decode b_MO_symbol 201 = .ok (.aload_n 0, 1) ∧ 201 + 1 = 202 := ⟨by decide +kernel, rfl⟩
theorem dMO_symbol_202 : decode b_MO_symbol 202 = .ok (.getfield 37, 3) ∧ 202 + 3 = 205 := ⟨by decide +kernel, rfl⟩
theorem dMO_symbol_205 : decode b_MO_symbol 205 = .ok (.iload 7, 2) ∧ 205 + 2 = 207 := ⟨by decide +kernel, rfl⟩
theorem dMO_symbol_207 : decode b_MO_symbol 207 = .ok (.iload 5, 2) ∧ 207 + 2 = 209 := ⟨by decide +kernel, rfl⟩
theorem dMO_symbol_209 : decode b_MO_symbol 209 = .ok (.iastore, 1) ∧ 209 + 1 = 210 := ⟨by decide +kernel, rfl⟩
theorem dMO_symbol_210 : decode b_MO_symbol 210 = .ok (.aload_n 0, 1) ∧ 210 + 1 = 211 := ⟨by decide +kernel, rfl⟩
theorem dMO_symbol_211 : decode b_MO_symbol 211 = .ok (.getfield 46, 3) ∧ 211 + 3 = 214 := ⟨by decide +kernel, rfl⟩
theorem dMO_symbol_214 : decode b_MO_symbol 214 = .ok (.iconst 0, 1) ∧ 214 + 1 = 215 := ⟨by decide +kernel, rfl⟩
theorem dMO_symbol_215 : decode b_MO_symbol 215 = .ok (.dup2, 1) ∧ 215 + 1 = 216 := ⟨by decide +kernel, rfl⟩
theorem dMO_symbol_216 : decode b_MO_symbol 216 = .ok (.iaload, 1) ∧ 216 + 1 = 217 := ⟨by decide +kernel, rfl⟩
theorem dMO_symbol_217 : decode b_MO_symbol 217 = .ok (.iconst 1, 1) ∧ 217 + 1 = 218 := ⟨by decide +kernel, rfl⟩
theorem dMO_symbol_218 : decode b_MO_symbol 218 = .ok (.iadd, 1) ∧ 218 + 1 = 219 := ⟨by decide +kernel, rfl⟩
theorem dMO_symbol_219 : decode b_MO_symbol 219 = .ok (.iastore, 1) ∧ 219 + 1 = 220 := ⟨by decide +kernel, rfl⟩
theorem dMO_symbol_220 : decode b_MO_symbol 220 = .ok (.iload 7, 2) ∧ 220 + 2 = 222 := ⟨by decide +kernel, rfl⟩
theorem dMO_symbol_222 : decode b_MO_symbol 222 = .ok (.ireturn, 1) ∧ 222 + 1 = 223 := ⟨by decide +kernel, rfl⟩
theorem dMO_isKind_0 : decode b_MO_isKind 0 = .ok (.iload_n 0, 1) ∧ 0 + 1 = 1 := ⟨by decide +kernel, rfl⟩
theorem dMO_isKind_1 : decode b_MO_isKind 1 = .ok (.iconst 1, 1) ∧ 1 + 1 = 2 := ⟨by decide +kernel, rfl⟩
theorem dMO_isKind_2 : decode b_MO_isKind 2 = .ok (.if_icmp .eq (75), 3) ∧ 2 + 3 = 5 ∧ ((2 : Nat) : Int) + (75) = ((77 : Nat) : Int) := ⟨by decide +kernel, rfl, by decide⟩
theorem dMO_isKind_5 : decode b_MO_isKind 5 = .ok (.iload_n 0, 1) ∧ 5 + 1 = 6 := ⟨by decide +kernel, rfl⟩
theorem dMO_isKind_6 : decode b_MO_isKind 6 = .ok (.bipush (16), 2) ∧ 6 + 2 = 8 := ⟨by decide +kernel, rfl⟩
theorem dMO_isKind_8 : decode b_MO_isKind 8 = .ok (.if_icmp .eq (69), 3) ∧ 8 + 3 = 11 ∧ ((8 : Nat) : Int) + (69) = ((77 : Nat) : Int) := ⟨by decide +kernel, rfl, by decide⟩
theorem dMO_isKind_11 : decode b_MO_isKind 11 = .ok (.iload_n 0, 1) ∧ 11 + 1 = 12 := ⟨by decide +kernel, rfl⟩
theorem dMO_isKind_12 : decode b_MO_isKind 12 = .ok (.bipush (17), 2) ∧ 12 + 2 = 14 := ⟨by decide +kernel, rfl⟩
theorem dMO_isKind_14 : decode b_MO_isKind 14 = .ok (.if_icmp .eq (63), 3) ∧ 14 + 3 = 17 ∧ ((14 : Nat) : Int) + (63) = ((77 : Nat) : Int) := ⟨by decide +kernel, rfl, by decide⟩
theorem dMO_isKind_17 : decode b_MO_isKind 17 = .ok (.iload_n 0, 1) ∧ 17 + 1 = 18 := ⟨by decide +kernel, rfl⟩
theorem dMO_isKind_18 : decode b_MO_isKind 18 = .ok (.bipush (19), 2) ∧ 18 + 2 = 20 := ⟨by decide +kernel, rfl⟩
theorem dMO_isKind_20 : decode b_MO_isKind 20 = .ok (.if_icmp .eq (57), 3) ∧ 20 + 3 = 23 ∧ ((20 : Nat) : Int) + (57) = ((77 : Nat) : Int) := ⟨by decide +kernel, rfl, by decide⟩
theorem dMO_isKind_23 : decode b_MO_isKind 23 = .ok (.iload_n 0, 1) ∧ 23 + 1 = 24 := ⟨by decide +kernel, rfl⟩
theorem dMO_isKind_24 : decode b_MO_isKind 24 = .ok (.bipush (23), 2) ∧ 24 + 2 = 26 := ⟨by decide +kernel, rfl⟩
theorem dMO_isKind_26 : decode b_MO_isKind 26 = .ok (.if_icmp .lt (9), 3) ∧ 26 + 3 = 29 ∧ ((26 : Nat) : Int) + (9) = ((35 : Nat) : Int) := ⟨by decide +kernel, rfl, by decide⟩
theorem dMO_isKind_29 : decode b_MO_isKind 29 = .ok (.iload_n 0, 1) ∧ 29 + 1 = 30 := ⟨by decide +kernel, rfl⟩
theorem dMO_isKind_30 : decode b_MO_isKind 30 = .ok (.bipush (28), 2) ∧ 30 + 2 = 32 := ⟨by decide +kernel, rfl⟩
theorem dMO_isKind_32 : decode b_MO_isKind 32 = .ok (.if_icmp .le (45), 3) ∧ 32 + 3 = 35 ∧ ((32 : Nat) : Int) + (45) = ((77 : Nat) : Int) := ⟨by decide +kernel, rfl, by decide⟩
theorem dMO_isKind_35 : decode b_MO_isKind 35 = .ok (.iload_n 0, 1) ∧ 35 + 1 = 36 := ⟨by decide +kernel, rfl⟩
theorem dMO_isKind_36 : decode b_MO_isKind 36 = .ok (.bipush (33), 2) ∧ 36 + 2 = 38 := ⟨by decide +kernel, rfl⟩
theorem dMO_isKind_38 : decode b_MO_isKind 38 = .ok (.if_icmp .lt (9), 3) ∧ 38 + 3 = 41 ∧ ((38 : Nat) : Int) + (9) = ((47 : Nat) : Int) := ⟨by decide +kernel, rfl, by decide⟩
theorem dMO_isKind_41 : decode b_MO_isKind 41 = .ok (.iload_n 0, 1) ∧ 41 + 1 = 42 := ⟨by decide +kernel, rfl⟩
theorem dMO_isKind_42 : decode b_MO_isKind 42 = .ok (.bipush (35), 2) ∧ 42 + 2 = 44 := ⟨by decide +kernel, rfl⟩
theorem dMO_isKind_44 : decode b_MO_isKind 44 = .ok (.if_icmp .le (33), 3) ∧ 44 + 3 = 47 ∧ ((44 : Nat) : Int) + (33) = ((77 : Nat) : Int) := ⟨by decide +kernel, rfl, by decide⟩
theorem dMO_isKind_47 : decode b_MO_isKind 47 = .ok (.iload_n 0, 1) ∧ 47 + 1 = 48 := ⟨by decide +kernel, rfl⟩
theorem dMO_isKind_48 : decode b_MO_isKind 48 = .ok (.bipush (37), 2) ∧ 48 + 2 = 50 := ⟨by decide +kernel, rfl⟩
theorem dMO_isKind_50 : decode b_MO_isKind 50 = .ok (.if_icmp .lt (9), 3) ∧ 50 + 3 = 53 ∧ ((50 : Nat) : Int) + (9) = ((59 : Nat) : Int) := ⟨by decide +kernel, rfl, by decide⟩
theorem dMO_isKind_53 : decode b_MO_isKind 53 = .ok (.iload_n 0, 1) ∧ 53 + 1 = 54 := ⟨by decide +kernel, rfl⟩
theorem dMO_isKind_54 : decode b_MO_isKind 54 = .ok (.bipush (39), 2) ∧ 54 + 2 = 56 := ⟨by decide +kernel, rfl⟩
theorem dMO_isKind_56 : decode b_MO_isKind 56 = .ok (.if_icmp .le (21), 3) ∧ 56 + 3 = 59 ∧ ((56 : Nat) : Int) + (21) = ((77 : Nat) : Int) := ⟨by decide +kernel, rfl, by decide⟩
theorem dMO_isKind_59 : decode b_MO_isKind 59 = .ok (.iload_n 0, 1) ∧ 59 + 1 = 60 := ⟨by decide +kernel, rfl⟩
theorem dMO_isKind_60 : decode b_MO_isKind 60 = .ok (.bipush (43), 2) ∧ 60 + 2 = 62 := ⟨by decide +kernel, rfl⟩
theorem dMO_isKind_62 : decode b_MO_isKind 62 = .ok (.if_icmp .lt (9), 3) ∧ 62 + 3 = 65 ∧ ((62 : Nat) : Int) + (9) = ((71 : Nat) : Int) := ⟨by decide +kernel, rfl, by decide⟩
theorem dMO_isKind_65 : decode b_MO_isKind 65 = .ok (.iload_n 0, 1) ∧ 65 + 1 = 66 := ⟨by decide +kernel, rfl⟩
theorem dMO_isKind_66 : decode b_MO_isKind 66 = .ok (.bipush (45), 2) ∧ 66 + 2 = 68 := ⟨by decide +kernel, rfl⟩
theorem dMO_isKind_68 : decode b_MO_isKind 68 = .ok (.if_icmp .le (9), 3) ∧ 68 + 3 = 71 ∧ ((68 : Nat) : Int) + (9) = ((77 : Nat) : Int) := ⟨by decide +kernel, rfl, by decide⟩
theorem dMO_isKind_71 : decode b_MO_isKind 71 = .ok (.iload_n 0, 1) ∧ 71 + 1 = 72 := ⟨by decide +kernel, rfl⟩
theorem dMO_isKind_72 : decode b_MO_isKind 72 = .ok (.bipush (51), 2) ∧ 72 + 2 = 74 := ⟨by decide +kernel, rfl⟩
theorem dMO_isKind_74 : decode b_MO_isKind 74 = .ok (.if_icmp .ne (7), 3) ∧ 74 + 3 = 77 ∧ ((74 : Nat) : Int) + (7) = ((81 : Nat) : Int) := ⟨by decide +kernel, rfl, by decide⟩
theorem dMO_isKind_77 : decode b_MO_isKind 77 = .ok (.iconst 1, 1) ∧ 77 + 1 = 78 := ⟨by decide +kernel, rfl⟩
theorem dMO_isKind_78 : decode b_MO_isKind 78 = .ok (.goto (4), 3) ∧ 78 + 3 = 81 ∧ ((78 : Nat) : Int) + (4) = ((82 : Nat) : Int) := ⟨by decide +kernel, rfl, by decide⟩
theorem dMO_isKind_81 : decode b_MO_isKind 81 = .ok (.iconst 0, 1) ∧ 81 + 1 = 82 := ⟨by decide +kernel, rfl⟩
theorem dMO_isKind_82 : decode b_MO_isKind 82 = .ok (.ireturn, 1) ∧ 82 + 1 = 83 := ⟨by decide +kernel, rfl⟩
theorem dMO_isKindOf_0 : decode b_MO_isKindOf 0 = .ok (.iload_n 0, 1) ∧ 0 + 1 = 1 := ⟨by decide +kernel, rfl⟩
theorem dMO_isKindOf_1 : decode b_MO_isKindOf 1 = .ok (.invokestatic 124, 3) ∧ 1 + 3 = 4 := ⟨by decide +kernel, rfl⟩
theorem dMO_isKindOf_4 : decode b_MO_isKindOf 4 = .ok (.ifCond .eq (28), 3) ∧ 4 + 3 = 7 ∧ ((4 : Nat) : Int) + (28) = ((32 : Nat) : Int) := ⟨by decide +kernel, rfl, by decide⟩
theorem dMO_isKindOf_7 : decode b_MO_isKindOf 7 = .ok (.iload_n 1, 1) ∧ 7 + 1 = 8 := ⟨by decide +kernel, rfl⟩
theorem dMO_isKindOf_8 : decode b_MO_isKindOf 8 = .ok (.ifCond .eq (20), 3) ∧ 8 + 3 = 11 ∧ ((8 : Nat) : Int) + (20) = ((28 : Nat) : Int) := ⟨by decide +kernel, rfl, by decide⟩
theorem dMO_isKindOf_11 : decode b_MO_isKindOf 11 = .ok (.iload_n 0, 1) ∧ 11 + 1 = 12 := ⟨by decide +kernel, rfl⟩
theorem dMO_isKindOf_12 : decode b_MO_isKindOf 12 = .ok (.iconst 1, 1) ∧ 12 + 1 = 13 := ⟨by decide +kernel, rfl⟩
theorem dMO_isKindOf_13 : decode b_MO_isKindOf 13 = .ok (.if_icmp .eq (15), 3) ∧ 13 + 3 = 16 ∧ ((13 : Nat) : Int) + (15) = ((28 : Nat) : Int) := ⟨by decide +kernel, rfl, by decide⟩
theorem dMO_isKindOf_16 : decode b_MO_isKindOf 16 = .ok (.iload_n 0, 1) ∧ 16 + 1 = 17 := ⟨by decide +kernel, rfl⟩
theorem dMO_isKindOf_17 : decode b_MO_isKindOf 17 = .ok (.bipush (33), 2) ∧ 17 + 2 = 19 := ⟨by decide +kernel, rfl⟩
theorem dMO_isKindOf_19 : decode b_MO_isKindOf 19 = .ok (.if_icmp .lt (13), 3) ∧ 19 + 3 = 22 ∧ ((19 : Nat) : Int) + (13) = ((32 : Nat) : Int) := ⟨by decide +kernel, rfl, by decide⟩
theorem dMO_isKindOf_22 : decode b_MO_isKindOf 22 = .ok (.iload_n 0, 1) ∧ 22 + 1 = 23 := ⟨by decide +kernel, rfl⟩
theorem dMO_isKindOf_23 : decode b_MO_isKindOf 23 = .ok (.bipush (39), 2) ∧ 23 + 2 = 25 := ⟨by decide +kernel, rfl⟩
theorem dMO_isKindOf_25 : decode b_MO_isKindOf 25 = .ok (.if_icmp .gt (7), 3) ∧ 25 + 3 = 28 ∧ ((25 : Nat) : Int) + (7) = ((32 : Nat) : Int) := ⟨by decide +kernel, rfl, by decide⟩
theorem dMO_isKindOf_28 : decode b_MO_isKindOf 28 = .ok (.iconst 1, 1) ∧ 28 + 1 = 29 := ⟨by decide +kernel, rfl⟩
theorem dMO_isKindOf_29 : decode b_MO_isKindOf 29 = .ok (.goto (4), 3) ∧ 29 + 3 = 32 ∧ ((29 : Nat) : Int) + (4) = ((33 : Nat) : Int) := ⟨by decide +kernel, rfl, by decide⟩
theorem dMO_isKindOf_32 : decode b_MO_isKindOf 32 = .ok (.iconst 0, 1) ∧ 32 + 1 = 33 := ⟨by decide +kernel, rfl⟩
theorem dMO_isKindOf_33 : decode b_MO_isKindOf 33 = .ok (.ireturn, 1) ∧ 33 + 1 = 34 := ⟨by decide +kernel, rfl⟩
theorem dMO_isAlone_0 : decode b_MO_isAlone 0 = .ok (.iload_n 0, 1) ∧ 0 + 1 = 1 := ⟨by decide +kernel, rfl⟩
theorem dMO_isAlone_1 : decode b_MO_isAlone 1 = .ok (.bipush (43), 2) ∧ 1 + 2 = 3 := ⟨by decide +kernel, rfl⟩
theorem dMO_isAlone_3 : decode b_MO_isAlone 3 = .ok (.if_icmp .eq (9), 3) ∧ 3 + 3 = 6 ∧ ((3 : Nat) : Int) + (9) = ((12 : Nat) : Int) := ⟨by decide +kernel, rfl, by decide⟩
theorem dMO_isAlone_6 : decode b_MO_isAlone 6 = .ok (.iload_n 0, 1) ∧ 6 + 1 = 7 := ⟨by decide +kernel, rfl⟩
theorem dMO_isAlone_7 : decode b_MO_isAlone 7 = .ok (.bipush (51), 2) ∧ 7 + 2 = 9 := ⟨by decide +kernel, rfl⟩
theorem dMO_isAlone_9 : decode b_MO_isAlone 9 = .ok (.if_icmp .ne (7), 3) ∧ 9 + 3 = 12 ∧ ((9 : Nat) : Int) + (7) = ((16 : Nat) : Int) := ⟨by decide +kernel, rfl, by decide⟩
theorem dMO_isAlone_12 : decode b_MO_isAlone 12 = .ok (.iconst 1, 1) ∧ 12 + 1 = 13 := ⟨by decide +kernel, rfl⟩
theorem dMO_isAlone_13 : decode b_MO_isAlone 13 = .ok (.goto (4), 3) ∧ 13 + 3 = 16 ∧ ((13 : Nat) : Int) + (4) = ((17 : Nat) : Int) := ⟨by decide +kernel, rfl, by decide⟩
theorem dMO_isAlone_16 : decode b_MO_isAlone 16 = .ok (.iconst 0, 1) ∧ 16 + 1 = 17 := ⟨by decide +kernel, rfl⟩
theorem dMO_isAlone_17 : decode b_MO_isAlone 17 = .ok (.ireturn, 1) ∧ 17 + 1 = 18 := ⟨by decide +kernel, rfl⟩
theorem dMO_isSkip_0 : decode b_MO_isSkip 0 = .ok (.lload_n 0, 1) ∧ 0 + 1 = 1 := ⟨by decide +kernel, rfl⟩
theorem dMO_isSkip_1 : decode b_MO_isSkip 1 = .ok (.lconst 0, 1) ∧ 1 + 1 = 2 := ⟨by decide +kernel, rfl⟩
theorem dMO_isSkip_2 : decode b_MO_isSkip 2 = .ok (.lcmp, 1) ∧ 2 + 1 = 3 := ⟨by decide +kernel, rfl⟩
theorem dMO_isSkip_3 : decode b_MO_isSkip 3 = .ok (.ifCond .lt (25), 3) ∧ 3 + 3 = 6 ∧ ((3 : Nat) : Int) + (25) = ((28 : Nat) : Int) := ⟨by decide +kernel, rfl, by decide⟩
theorem dMO_isSkip_6 : decode b_MO_isSkip 6 = .ok (.lload_n 0, 1) ∧ 6 + 1 = 7 := ⟨by decide +kernel, rfl⟩
theorem dMO_isSkip_7 : decode b_MO_isSkip 7 = .ok (.ldc2_w 128, 3) ∧ 7 + 3 = 10 := ⟨by decide +kernel, rfl⟩
theorem dMO_isSkip_10 : decode b_MO_isSkip 10 = .ok (.lcmp, 1) ∧ 10 + 1 = 11 := ⟨by decide +kernel, rfl⟩
theorem dMO_isSkip_11 : decode b_MO_isSkip 11 = .ok (.ifCond .gt (17), 3) ∧ 11 + 3 = 14 ∧ ((11 : Nat) : Int) + (17) = ((28 : Nat) : Int) := ⟨by decide +kernel, rfl, by decide⟩
theorem dMO_isSkip_14 : decode b_MO_isSkip 14 = .ok (.lload_n 0, 1) ∧ 14 + 1 = 15 := ⟨by decide +kernel, rfl⟩
theorem dMO_isSkip_15 : decode b_MO_isSkip 15 = .ok (.ldc2_w 130, 3) ∧ 15 + 3 = 18 := ⟨by decide +kernel, rfl⟩
theorem dMO_isSkip_18 : decode b_MO_isSkip 18 = .ok (.lrem, 1) ∧ 18 + 1 = 19 := ⟨by decide +kernel, rfl⟩
theorem dMO_isSkip_19 : decode b_MO_isSkip 19 = .ok (.lconst 0, 1) ∧ 19 + 1 = 20 := ⟨by decide +kernel, rfl⟩
theorem dMO_isSkip_20 : decode b_MO_isSkip 20 = .ok (.lcmp, 1) ∧ 20 + 1 = 21 := ⟨by decide +kernel, rfl⟩
theorem dMO_isSkip_21 : decode b_MO_isSkip 21 = .ok (.ifCond .ne (7), 3) ∧ 21 + 3 = 24 ∧ ((21 : Nat) : Int) + (7) = ((28 : Nat) : Int) := ⟨by decide +kernel, rfl, by decide⟩
theorem dMO_isSkip_24 : decode b_MO_isSkip 24 = .ok (.iconst 1, 1) ∧ 24 + 1 = 25 := ⟨by decide +kernel, rfl⟩
theorem dMO_isSkip_25 : decode b_MO_isSkip 25 = .ok (.goto (4), 3) ∧ 25 + 3 = 28 ∧ ((25 : Nat) : Int) + (4) = ((29 : Nat) : Int) := ⟨by decide +kernel, rfl, by decide⟩
theorem dMO_isSkip_28 : decode b_MO_isSkip 28 = .ok (.iconst 0, 1) ∧ 28 + 1 = 29 := ⟨by decide +kernel, rfl⟩
theorem dMO_isSkip_29 : decode b_MO_isSkip 29 = .ok (.ireturn, 1) ∧ 29 + 1 = 30 := ⟨by decide +kernel, rfl⟩
theorem dMO_relocation_0 : decode b_MO_relocation 0 = .ok (.aload_n 0, 1) ∧ 0 + 1 = 1 := ⟨by decide +kernel, rfl⟩
theorem dMO_relocation_1 : decode b_MO_relocation 1 = .ok (.getfield 64, 3) ∧ 1 + 3 = 4 := ⟨by decide +kernel, rfl⟩
theorem dMO_relocation_4 : decode b_MO_relocation 4 = .ok (.iconst 0, 1) ∧ 4 + 1 = 5 := ⟨by decide +kernel, rfl⟩
theorem dMO_relocation_5 : decode b_MO_relocation 5 = .ok (.iaload, 1) ∧ 5 + 1 = 6 := ⟨by decide +kernel, rfl⟩
theorem dMO_relocation_6 : decode b_MO_relocation 6 = .ok (.istore 6, 2) ∧ 6 + 2 = 8 := ⟨by decide +kernel, rfl⟩
theorem dMO_relocation_8 : decode b_MO_relocation 8 = .ok (.iload 6, 2) ∧ 8 + 2 = 10 := ⟨by decide +kernel, rfl⟩
theorem dMO_relocation_10 : decode b_MO_relocation 10 = .ok (.sipush (300), 3) ∧ 10 + 3 = 13 := ⟨by decide +kernel, rfl⟩
theorem dMO_relocation_13 : decode b_MO_relocation 13 = .ok (.if_icmp .eq (37), 3) ∧ 13 + 3 = 16 ∧ ((13 : Nat) : Int) + (37) = ((50 : Nat) : Int) := ⟨by decide +kernel, rfl, by decide⟩
theorem dMO_relocation_16 : decode b_MO_relocation 16 = .ok (.iload_n 1, 1) ∧ 16 + 1 = 17 := ⟨by decide +kernel, rfl⟩
theorem dMO_relocation_17 : decode b_MO_relocation 17 = .ok (.ifCond .lt (33), 3) ∧ 17 + 3 = 20 ∧ ((17 : Nat) : Int) + (33) = ((50 : Nat) : Int) := ⟨by decide +kernel, rfl, by decide⟩
theorem dMO_relocation_20 : decode b_MO_relocation 20 = .ok (.iload_n 1, 1) ∧ 20 + 1 = 21 := ⟨by decide +kernel, rfl⟩
theorem dMO_relocation_21 : decode b_MO_relocation 21 = .ok (.iconst 2, 1) ∧ 21 + 1 = 22 := ⟨by decide +kernel, rfl⟩
theorem dMO_relocation_22 : decode b_MO_relocation 22 = .ok (.if_icmp .gt (28), 3) ∧ 22 + 3 = 25 ∧ ((22 : Nat) : Int) + (28) = ((50 : Nat) : Int) := ⟨by decide +kernel, rfl, by decide⟩
theorem dMO_relocation_25 : decode b_MO_relocation 25 = .ok (.iload_n 3, 1) ∧ 25 + 1 = 26 := ⟨by decide +kernel, rfl⟩
theorem dMO_relocation_26 : decode b_MO_relocation 26 = .ok (.iload_n 1, 1) ∧ 26 + 1 = 27 := ⟨by decide +kernel, rfl⟩
theorem dMO_relocation_27 : decode b_MO_relocation 27 = .ok (.invokestatic 152, 3) ∧ 27 + 3 = 30 := ⟨by decide +kernel, rfl⟩
theorem dMO_relocation_30 : decode b_MO_relocation 30 = .ok (.ifCond .eq (20), 3) ∧ 30 + 3 = 33 ∧ ((30 : Nat) : Int) + (20) = ((50 : Nat) : Int) := ⟨by decide +kernel, rfl, by decide⟩
theorem dMO_relocation_33 : decode b_MO_relocation 33 = .ok (.iload 4, 2) ∧ 33 + 2 = 35 := ⟨by decide +kernel, rfl⟩
theorem dMO_relocation_35 : decode b_MO_relocation 35 = .ok (.iconst (-1), 1) ∧ 35 + 1 = 36 := ⟨by decide +kernel, rfl⟩
theorem dMO_relocation_36 : decode b_MO_relocation 36 = .ok (.if_icmp .lt (14), 3) ∧ 36 + 3 = 39 ∧ ((36 : Nat) : Int) + (14) = ((50 : Nat) : Int) := ⟨by decide +kernel, rfl, by decide⟩
theorem dMO_relocation_39 : decode b_MO_relocation 39 = .ok (.iload 4, 2) ∧ 39 + 2 = 41 := ⟨by decide +kernel, rfl⟩
theorem dMO_relocation_41 : decode b_MO_relocation 41 = .ok (.aload_n 0, 1) ∧ 41 + 1 = 42 := ⟨by decide +kernel, rfl⟩
theorem dMO_relocation_42 : decode b_MO_relocation 42 = .ok (.getfield 46, 3) ∧ 42 + 3 = 45 := ⟨by decide +kernel, rfl⟩
theorem dMO_relocation_45 : decode b_MO_relocation 45 = .ok (.iconst 0, 1) ∧ 45 + 1 = 46 := ⟨by decide +kernel, rfl⟩
theorem dMO_relocation_46 : decode b_MO_relocation 46 = .ok (.iaload, 1) ∧ 46 + 1 = 47 := ⟨by decide +kernel, rfl⟩
theorem dMO_relocation_47 : decode b_MO_relocation 47 = .ok (.if_icmp .lt (5), 3) ∧ 47 + 3 = 50 ∧ ((47 : Nat) : Int) + (5) = ((52 : Nat) : Int) := ⟨by decide +kernel, rfl, by decide⟩
theorem dMO_relocation_50 : decode b_MO_relocation 50 = .ok (.iconst (-1), 1) ∧ 50 + 1 = 51 := ⟨by decide +kernel, rfl⟩
theorem dMO_relocation_51 : decode b_MO_relocation 51 = .ok (.ireturn, 1) ∧ 51 + 1 = 52 := ⟨by decide +kernel, rfl⟩
theorem dMO_relocation_52 : decode b_MO_relocation 52 = .ok (.iload_n 3, 1) ∧ 52 + 1 = 53 := ⟨by decide +kernel, rfl⟩
theorem dMO_relocation_53 : decode b_MO_relocation 53 = .ok (.invokestatic 155, 3) ∧ 53 + 3 = 56 := ⟨by decide +kernel, rfl⟩
theorem dMO_relocation_56 : decode b_MO_relocation 56 = .ok (.iload 4, 2) ∧ 56 + 2 = 58 := ⟨by decide +kernel, rfl⟩
theorem dMO_relocation_58 : decode b_MO_relocation 58 = .ok (.iconst (-1), 1) ∧ 58 + 1 = 59 := ⟨by decide +kernel, rfl⟩
theorem dMO_relocation_59 : decode b_MO_relocation 59 = .ok (.if_icmp .ne (7), 3) ∧ 59 + 3 = 62 ∧ ((59 : Nat) : Int) + (7) = ((66 : Nat) : Int) := ⟨by decide +kernel, rfl, by decide⟩
theorem dMO_relocation_62 : decode b_MO_relocation 62 = .ok (.iconst 1, 1) ∧ 62 + 1 = 63 := ⟨by decide +kernel, rfl⟩
theorem dMO_relocation_63 : decode b_MO_relocation 63 = .ok (.goto (4), 3) ∧ 63 + 3 = 66 ∧ ((63 : Nat) : Int) + (4) = ((67 : Nat) : Int) := ⟨by decide +kernel, rfl, by decide⟩
theorem dMO_relocation_66 : decode b_MO_relocation 66 = .ok (.iconst 0, 1) ∧ 66 + 1 = 67 := ⟨by decide +kernel, rfl⟩
theorem dMO_relocation_67 : decode b_MO_relocation 67 = .ok (.if_icmp .ne (22), 3) ∧ 67 + 3 = 70 ∧ ((67 : Nat) : Int) + (22) = ((89 : Nat) : Int) := ⟨by decide +kernel, rfl, by decide⟩
theorem dMO_relocation_70 : decode b_MO_relocation 70 = .ok (.iload_n 3, 1) ∧ 70 + 1 = 71 := ⟨by decide +kernel, rfl⟩
theorem dMO_relocation_71 : decode b_MO_relocation 71 = .ok (.bipush (43), 2) ∧ 71 + 2 = 73 := ⟨by decide +kernel, rfl⟩
theorem dMO_relocation_73 : decode b_MO_relocation 73 = .ok (.if_icmp .ne (12), 3) ∧ 73 + 3 = 76 ∧ ((73 : Nat) : Int) + (12) = ((85 : Nat) : Int) := ⟨by decide +kernel, rfl, by decide⟩
theorem dMO_relocation_76 : decode b_MO_relocation 76 = .ok (.iload 5, 2) ∧ 76 + 2 = 78 := ⟨by decide +kernel, rfl⟩
theorem dMO_relocation_78 : decode b_MO_relocation 78 = .ok (.i2l, 1) ∧ 78 + 1 = 79 := ⟨by decide +kernel, rfl⟩
theorem dMO_relocation_79 : decode b_MO_relocation 79 = .ok (.invokestatic 158, 3) ∧ 79 + 3 = 82 := ⟨by decide +kernel, rfl⟩
theorem dMO_relocation_82 : decode b_MO_relocation 82 = .ok (.ifCond .eq (7), 3) ∧ 82 + 3 = 85 ∧ ((82 : Nat) : Int) + (7) = ((89 : Nat) : Int) := ⟨by decide +kernel, rfl, by decide⟩
theorem dMO_relocation_85 : decode b_MO_relocation 85 = .ok (.iload_n 2, 1) ∧ 85 + 1 = 86 := ⟨by decide +kernel, rfl⟩
theorem dMO_relocation_86 : decode b_MO_relocation 86 = .ok (.ifCond .ge (5), 3) ∧ 86 + 3 = 89 ∧ ((86 : Nat) : Int) + (5) = ((91 : Nat) : Int) := ⟨by decide +kernel, rfl, by decide⟩
theorem dMO_relocation_89 : decode b_MO_relocation 89 = .ok (.iconst (-1), 1) ∧ 89 + 1 = 90 := ⟨by decide +kernel, rfl⟩
theorem dMO_relocation_90 : decode b_MO_relocation 90 = .ok (.ireturn, 1) ∧ 90 + 1 = 91 := ⟨by decide +kernel, rfl⟩
theorem dMO_relocation_91 : decode b_MO_relocation 91 = .ok (.aload_n 0, 1) ∧ 91 + 1 = 92 := ⟨by decide +kernel, rfl⟩
theorem dMO_relocation_92 : decode b_MO_relocation 92 = .ok (.getfield 49, 3) ∧ 92 + 3 = 95 := ⟨by decide +kernel, rfl⟩
theorem dMO_relocation_95 : decode b_MO_relocation 95 = .ok (.iload 6, 2) ∧ 95 + 2 = 97 := ⟨by decide +kernel, rfl⟩
theorem dMO_relocation_97 : decode b_MO_relocation 97 = .ok (.iload_n 1, 1) ∧ 97 + 1 = 98 := ⟨by decide +kernel, rfl⟩
theorem dMO_relocation_98 : decode b_MO_relocation 98 = .ok (.iastore, 1) ∧ 98 + 1 = 99 := ⟨by decide +kernel, rfl⟩
theorem dMO_relocation_99 : decode b_MO_relocation 99 = .ok (.aload_n 0, 1) ∧ 99 + 1 = 100 := ⟨by decide +kernel, rfl⟩
theorem dMO_relocation_100 : decode b_MO_relocation 100 = .ok (.getfield 52, 3) ∧ 100 + 3 = 103 := ⟨by decide +kernel, rfl⟩
theorem dMO_relocation_103 : decode b_MO_relocation 103 = .ok (.iload 6, 2) ∧ 103 + 2 = 105 := ⟨by decide +kernel, rfl⟩
theorem dMO_relocation_105 : decode b_MO_relocation 105 = .ok (.iload_n 2, 1) ∧ 105 + 1 = 106 := ⟨by decide +kernel, rfl⟩
theorem dMO_relocation_106 : decode b_MO_relocation 106 = .ok (.iastore, 1) ∧ 106 + 1 = 107 := ⟨by decide +kernel, rfl⟩
theorem dMO_relocation_107 : decode b_MO_relocation 107 = .ok (.aload_n 0, 1) ∧ 107 + 1 = 108 := ⟨by decide +kernel, rfl⟩
theorem dMO_relocation_108 : decode b_MO_relocation 108 = .ok (.getfield 55, 3) ∧ 108 + 3 = 111 := ⟨by decide +kernel, rfl⟩
theorem dMO_relocation_111 : decode b_MO_relocation 111 = .ok (.iload 6, 2) ∧ 111 + 2 = 113 := ⟨by decide +kernel, rfl⟩
theorem dMO_relocation_113 : decode b_MO_relocation 113 = .ok (.iload_n 3, 1) ∧ 113 + 1 = 114 := ⟨by decide +kernel, rfl⟩
theorem dMO_relocation_114 : decode b_MO_relocation 114 = .ok (.iastore, 1) ∧ 114 + 1 = 115 := ⟨by decide +kernel, rfl⟩
theorem dMO_relocation_115 : decode b_MO_relocation 115 = .ok (.aload_n 0, 1) ∧ 115 + 1 = 116 := ⟨by decide +kernel, rfl⟩
theorem dMO_relocation_116 : decode b_MO_relocation 116 = .ok (.getfield 58, 3) ∧ 116 + 3 = 119 := ⟨by decide +kernel, rfl⟩
theorem dMO_relocation_119 : decode b_MO_relocation 119 = .ok (.iload 6, 2) ∧ 119 + 2 = 121 := ⟨by decide +kernel, rfl⟩
theorem dMO_relocation_121 : decode b_MO_relocation 121 = .ok (.iload 4, 2) ∧ 121 + 2 = 123 := ⟨by decide +kernel, rfl⟩
theorem dMO_relocation_123 : decode b_MO_relocation 123 = .ok (.iastore, 1) ∧ 123 + 1 = 124 := ⟨by decide +kernel, rfl⟩
theorem dMO_relocation_124 : decode b_MO_relocation 124 = .ok (.aload_n 0, 1) ∧ 124 + 1 = 125 := ⟨by decide +kernel, rfl⟩
theorem dMO_relocation_125 : decode b_MO_relocation 125 = .ok (.getfield 61, 3) ∧ 125 + 3 = 128 := ⟨by decide +kernel, rfl⟩
theorem dMO_relocation_128 : decode b_MO_relocation 128 = .ok (.iload 6, 2) ∧ 128 + 2 = 130 := ⟨by decide +kernel, rfl⟩
theorem dMO_relocation_130 : decode b_MO_relocation 130 = .ok (.iload 5, 2) ∧ 130 + 2 = 132 := ⟨by decide +kernel, rfl⟩
theorem dMO_relocation_132 : decode b_MO_relocation 132 = .ok (.iastore, 1) ∧ 132 + 1 = 133 := ⟨by decide +kernel, rfl⟩
theorem dMO_relocation_133 : decode b_MO_relocation 133 = .ok (.aload_n 0, 1) ∧ 133 + 1 = 134 := ⟨by decide +kernel, rfl⟩
theorem dMO_relocation_134 : decode b_MO_relocation 134 = .ok (.getfield 64, 3) ∧ 134 + 3 = 137 := ⟨by decide +kernel, rfl⟩
theorem dMO_relocation_137 : decode b_MO_relocation 137 = .ok (.iconst 0, 1) ∧ 137 + 1 = 138 := ⟨by decide +kernel, rfl⟩
theorem dMO_relocation_138 : decode b_MO_relocation 138 = .ok (.dup2, 1) ∧ 138 + 1 = 139 := ⟨by decide +kernel, rfl⟩
theorem dMO_relocation_139 : decode b_MO_relocation 139 = .ok (.iaload, 1) ∧ 139 + 1 = 140 := ⟨by decide +kernel, rfl⟩
theorem dMO_relocation_140 : decode b_MO_relocation 140 = .ok (.iconst 1, 1) ∧ 140 + 1 = 141 := ⟨by decide +kernel, rfl⟩
theorem dMO_relocation_141 : decode b_MO_relocation 141 = .ok (.iadd, 1) ∧ 141 + 1 = 142 := ⟨by decide +kernel, rfl⟩
theorem dMO_relocation_142 : decode b_MO_relocation 142 = .ok (.iastore, 1) ∧ 142 + 1 = 143 := ⟨by decide +kernel, rfl⟩
theorem dMO_relocation_143 : decode b_MO_relocation 143 = .ok (.iload 6, 2) ∧ 143 + 2 = 145 := ⟨by decide +kernel, rfl⟩
theorem dMO_relocation_145 : decode b_MO_relocation 145 = .ok (.ireturn, 1) ∧ 145 + 1 = 146 := ⟨by decide +kernel, rfl⟩
theorem dMO_widthOf_0 : decode b_MO_widthOf 0 = .ok (.iload_n 0, 1) ∧ 0 + 1 = 1 := ⟨by decide +kernel, rfl⟩
theorem dMO_widthOf_1 : decode b_MO_widthOf 1 = .ok (.bipush (43), 2) ∧ 1 + 2 = 3 := ⟨by decide +kernel, rfl⟩
theorem dMO_widthOf_3 : decode b_MO_widthOf 3 = .ok (.if_icmp .ne (5), 3) ∧ 3 + 3 = 6 ∧ ((3 : Nat) : Int) + (5) = ((8 : Nat) : Int) := ⟨by decide +kernel, rfl, by decide⟩
theorem dMO_widthOf_6 : decode b_MO_widthOf 6 = .ok (.iload_n 1, 1) ∧ 6 + 1 = 7 := ⟨by decide +kernel, rfl⟩
theorem dMO_widthOf_7 : decode b_MO_widthOf 7 = .ok (.ireturn, 1) ∧ 7 + 1 = 8 := ⟨by decide +kernel, rfl⟩
theorem dMO_widthOf_8 : decode b_MO_widthOf 8 = .ok (.iload_n 0, 1) ∧ 8 + 1 = 9 := ⟨by decide +kernel, rfl⟩
theorem dMO_widthOf_9 : decode b_MO_widthOf 9 = .ok (.bipush (51), 2) ∧ 9 + 2 = 11 := ⟨by decide +kernel, rfl⟩
theorem dMO_widthOf_11 : decode b_MO_widthOf 11 = .ok (.if_icmp .ne (5), 3) ∧ 11 + 3 = 14 ∧ ((11 : Nat) : Int) + (5) = ((16 : Nat) : Int) := ⟨by decide +kernel, rfl, by decide⟩
theorem dMO_widthOf_14 : decode b_MO_widthOf 14 = .ok (.iconst 0, 1) ∧ 14 + 1 = 15 := ⟨by decide +kernel, rfl⟩
theorem dMO_widthOf_15 : decode b_MO_widthOf 15 = .ok (.ireturn, 1) ∧ 15 + 1 = 16 := ⟨by decide +kernel, rfl⟩
theorem dMO_widthOf_16 : decode b_MO_widthOf 16 = .ok (.iload_n 0, 1) ∧ 16 + 1 = 17 := ⟨by decide +kernel, rfl⟩
theorem dMO_widthOf_17 : decode b_MO_widthOf 17 = .ok (.bipush (33), 2) ∧ 17 + 2 = 19 := ⟨by decide +kernel, rfl⟩
theorem dMO_widthOf_19 : decode b_MO_widthOf 19 = .ok (.if_icmp .eq (9), 3) ∧ 19 + 3 = 22 ∧ ((19 : Nat) : Int) + (9) = ((28 : Nat) : Int) := ⟨by decide +kernel, rfl, by decide⟩
theorem dMO_widthOf_22 : decode b_MO_widthOf 22 = .ok (.iload_n 0, 1) ∧ 22 + 1 = 23 := ⟨by decide +kernel, rfl⟩
theorem dMO_widthOf_23 : decode b_MO_widthOf 23 = .ok (.bipush (37), 2) ∧ 23 + 2 = 25 := ⟨by decide +kernel, rfl⟩
theorem dMO_widthOf_25 : decode b_MO_widthOf 25 = .ok (.if_icmp .ne (5), 3) ∧ 25 + 3 = 28 ∧ ((25 : Nat) : Int) + (5) = ((30 : Nat) : Int) := ⟨by decide +kernel, rfl, by decide⟩
theorem dMO_widthOf_28 : decode b_MO_widthOf 28 = .ok (.iconst 1, 1) ∧ 28 + 1 = 29 := ⟨by decide +kernel, rfl⟩
theorem dMO_widthOf_29 : decode b_MO_widthOf 29 = .ok (.ireturn, 1) ∧ 29 + 1 = 30 := ⟨by decide +kernel, rfl⟩
theorem dMO_widthOf_30 : decode b_MO_widthOf 30 = .ok (.iload_n 0, 1) ∧ 30 + 1 = 31 := ⟨by decide +kernel, rfl⟩
theorem dMO_widthOf_31 : decode b_MO_widthOf 31 = .ok (.bipush (34), 2) ∧ 31 + 2 = 33 := ⟨by decide +kernel, rfl⟩
theorem dMO_widthOf_33 : decode b_MO_widthOf 33 = .ok (.if_icmp .eq (21), 3) ∧ 33 + 3 = 36 ∧ ((33 : Nat) : Int) + (21) = ((54 : Nat) : Int) := ⟨by decide +kernel, rfl, by decide⟩
theorem dMO_widthOf_36 : decode b_MO_widthOf 36 = .ok (.iload_n 0, 1) ∧ 36 + 1 = 37 := ⟨by decide +kernel, rfl⟩
theorem dMO_widthOf_37 : decode b_MO_widthOf 37 = .ok (.bipush (38), 2) ∧ 37 + 2 = 39 := ⟨by decide +kernel, rfl⟩
theorem dMO_widthOf_39 : decode b_MO_widthOf 39 = .ok (.if_icmp .eq (15), 3) ∧ 39 + 3 = 42 ∧ ((39 : Nat) : Int) + (15) = ((54 : Nat) : Int) := ⟨by decide +kernel, rfl, by decide⟩
theorem dMO_widthOf_42 : decode b_MO_widthOf 42 = .ok (.iload_n 0, 1) ∧ 42 + 1 = 43 := ⟨by decide +kernel, rfl⟩
theorem dMO_widthOf_43 : decode b_MO_widthOf 43 = .ok (.bipush (44), 2) ∧ 43 + 2 = 45 := ⟨by decide +kernel, rfl⟩
theorem dMO_widthOf_45 : decode b_MO_widthOf 45 = .ok (.if_icmp .eq (9), 3) ∧ 45 + 3 = 48 ∧ ((45 : Nat) : Int) + (9) = ((54 : Nat) : Int) := ⟨by decide +kernel, rfl, by decide⟩
theorem dMO_widthOf_48 : decode b_MO_widthOf 48 = .ok (.iload_n 0, 1) ∧ 48 + 1 = 49 := ⟨by decide +kernel, rfl⟩
theorem dMO_widthOf_49 : decode b_MO_widthOf 49 = .ok (.bipush (45), 2) ∧ 49 + 2 = 51 := ⟨by decide +kernel, rfl⟩
theorem dMO_widthOf_51 : decode b_MO_widthOf 51 = .ok (.if_icmp .ne (7), 3) ∧ 51 + 3 = 54 ∧ ((51 : Nat) : Int) + (7) = ((58 : Nat) : Int) := ⟨by decide +kernel, rfl, by decide⟩
theorem dMO_widthOf_54 : decode b_MO_widthOf 54 = .ok (.iconst 2, 1) ∧ 54 + 1 = 55 := ⟨by decide +kernel, rfl⟩
theorem dMO_widthOf_55 : decode b_MO_widthOf 55 = .ok (.goto (15), 3) ∧ 55 + 3 = 58 ∧ ((55 : Nat) : Int) + (15) = ((70 : Nat) : Int) := ⟨by decide +kernel, rfl, by decide⟩
theorem dMO_widthOf_58 : decode b_MO_widthOf 58 = .ok (.iload_n 0, 1) ∧ 58 + 1 = 59 := ⟨by decide +kernel, rfl⟩
theorem dMO_widthOf_59 : decode b_MO_widthOf 59 = .ok (.bipush (19), 2) ∧ 59 + 2 = 61 := ⟨by decide +kernel, rfl⟩
theorem dMO_widthOf_61 : decode b_MO_widthOf 61 = .ok (.if_icmp .ne (8), 3) ∧ 61 + 3 = 64 ∧ ((61 : Nat) : Int) + (8) = ((69 : Nat) : Int) := ⟨by decide +kernel, rfl, by decide⟩
theorem dMO_widthOf_64 : decode b_MO_widthOf 64 = .ok (.bipush (8), 2) ∧ 64 + 2 = 66 := ⟨by decide +kernel, rfl⟩
theorem dMO_widthOf_66 : decode b_MO_widthOf 66 = .ok (.goto (4), 3) ∧ 66 + 3 = 69 ∧ ((66 : Nat) : Int) + (4) = ((70 : Nat) : Int) := ⟨by decide +kernel, rfl, by decide⟩
theorem dMO_widthOf_69 : decode b_MO_widthOf 69 = .ok (.iconst 4, 1) ∧ 69 + 1 = 70 := ⟨by decide +kernel, rfl⟩
theorem dMO_widthOf_70 : decode b_MO_widthOf 70 = .ok (.ireturn, 1) ∧ 70 + 1 = 71 := ⟨by decide +kernel, rfl⟩
theorem dMO_unfit_0 : decode b_MO_unfit 0 = .ok (.iconst 0, 1) ∧ 0 + 1 = 1 := ⟨by decide +kernel, rfl⟩
theorem dMO_unfit_1 : decode b_MO_unfit 1 = .ok (.istore_n 1, 1) ∧ 1 + 1 = 2 := ⟨by decide +kernel, rfl⟩
theorem dMO_unfit_2 : decode b_MO_unfit 2 = .ok (.iload_n 1, 1) ∧ 2 + 1 = 3 := ⟨by decide +kernel, rfl⟩
theorem dMO_unfit_3 : decode b_MO_unfit 3 = .ok (.aload_n 0, 1) ∧ 3 + 1 = 4 := ⟨by decide +kernel, rfl⟩
theorem dMO_unfit_4 : decode b_MO_unfit 4 = .ok (.getfield 22, 3) ∧ 4 + 3 = 7 := ⟨by decide +kernel, rfl⟩
theorem dMO_unfit_7 : decode b_MO_unfit 7 = .ok (.iconst 0, 1) ∧ 7 + 1 = 8 := ⟨by decide +kernel, rfl⟩
theorem dMO_unfit_8 : decode b_MO_unfit 8 = .ok (.iaload, 1) ∧ 8 + 1 = 9 := ⟨by decide +kernel, rfl⟩
theorem dMO_unfit_9 : decode b_MO_unfit 9 = .ok (.if_icmp .ge (26), 3) ∧ 9 + 3 = 12 ∧ ((9 : Nat) : Int) + (26) = ((35 : Nat) : Int) := ⟨by decide +kernel, rfl, by decide⟩
theorem dMO_unfit_12 : decode b_MO_unfit 12 = .ok (.aload_n 0, 1) ∧ 12 + 1 = 13 := ⟨by decide +kernel, rfl⟩
theorem dMO_unfit_13 : decode b_MO_unfit 13 = .ok (.getfield 19, 3) ∧ 13 + 3 = 16 := ⟨by decide +kernel, rfl⟩
theorem dMO_unfit_16 : decode b_MO_unfit 16 = .ok (.iload_n 1, 1) ∧ 16 + 1 = 17 := ⟨by decide +kernel, rfl⟩
theorem dMO_unfit_17 : decode b_MO_unfit 17 = .ok (.iaload, 1) ∧ 17 + 1 = 18 := ⟨by decide +kernel, rfl⟩
theorem dMO_unfit_18 : decode b_MO_unfit 18 = .ok (.aload_n 0, 1) ∧ 18 + 1 = 19 := ⟨by decide +kernel, rfl⟩
theorem dMO_unfit_19 : decode b_MO_unfit 19 = .ok (.getfield 13, 3) ∧ 19 + 3 = 22 := ⟨by decide +kernel, rfl⟩
theorem dMO_unfit_22 : decode b_MO_unfit 22 = .ok (.iconst 0, 1) ∧ 22 + 1 = 23 := ⟨by decide +kernel, rfl⟩
theorem dMO_unfit_23 : decode b_MO_unfit 23 = .ok (.iaload, 1) ∧ 23 + 1 = 24 := ⟨by decide +kernel, rfl⟩
theorem dMO_unfit_24 : decode b_MO_unfit 24 = .ok (.if_icmp .lt (5), 3) ∧ 24 + 3 = 27 ∧ ((24 : Nat) : Int) + (5) = ((29 : Nat) : Int) := ⟨by decide +kernel, rfl, by decide⟩
theorem dMO_unfit_27 : decode b_MO_unfit 27 = .ok (.iconst (-1), 1) ∧ 27 + 1 = 28 := ⟨by decide +kernel, rfl⟩
theorem dMO_unfit_28 : decode b_MO_unfit 28 = .ok (.ireturn, 1) ∧ 28 + 1 = 29 := ⟨by decide +kernel, rfl⟩
theorem dMO_unfit_29 : decode b_MO_unfit 29 = .ok (.iinc 1 (1), 3) ∧ 29 + 3 = 32 := ⟨by decide +kernel, rfl⟩
theorem dMO_unfit_32 : decode b_MO_unfit 32 = .ok (.goto (-30), 3) ∧ 32 + 3 = 35 ∧ ((32 : Nat) : Int) + (-30) = ((2 : Nat) : Int) := ⟨by decide +kernel, rfl, by decide⟩
theorem dMO_unfit_35 : decode b_MO_unfit 35 = .ok (.iconst 0, 1) ∧ 35 + 1 = 36 := ⟨by decide +kernel, rfl⟩
theorem dMO_unfit_36 : decode b_MO_unfit 36 = .ok (.istore_n 1, 1) ∧ 36 + 1 = 37 := ⟨by decide +kernel, rfl⟩
theorem dMO_unfit_37 : decode b_MO_unfit 37 = .ok (.iload_n 1, 1) ∧ 37 + 1 = 38 := ⟨by decide +kernel, rfl⟩
theorem dMO_unfit_38 : decode b_MO_unfit 38 = .ok (.aload_n 0, 1) ∧ 38 + 1 = 39 := ⟨by decide +kernel, rfl⟩
theorem dMO_unfit_39 : decode b_MO_unfit 39 = .ok (.getfield 46, 3) ∧ 39 + 3 = 42 := ⟨by decide +kernel, rfl⟩
theorem dMO_unfit_42 : decode b_MO_unfit 42 = .ok (.iconst 0, 1) ∧ 42 + 1 = 43 := ⟨by decide +kernel, rfl⟩
theorem dMO_unfit_43 : decode b_MO_unfit 43 = .ok (.iaload, 1) ∧ 43 + 1 = 44 := ⟨by decide +kernel, rfl⟩
theorem dMO_unfit_44 : decode b_MO_unfit 44 = .ok (.if_icmp .ge (62), 3) ∧ 44 + 3 = 47 ∧ ((44 : Nat) : Int) + (62) = ((106 : Nat) : Int) := ⟨by decide +kernel, rfl, by decide⟩
theorem dMO_unfit_47 : decode b_MO_unfit 47 = .ok (.aload_n 0, 1) ∧ 47 + 1 = 48 := ⟨by decide +kernel, rfl⟩
theorem dMO_unfit_48 : decode b_MO_unfit 48 = .ok (.getfield 25, 3) ∧ 48 + 3 = 51 := ⟨by decide +kernel, rfl⟩
theorem dMO_unfit_51 : decode b_MO_unfit 51 = .ok (.iload_n 1, 1) ∧ 51 + 1 = 52 := ⟨by decide +kernel, rfl⟩
theorem dMO_unfit_52 : decode b_MO_unfit 52 = .ok (.iaload, 1) ∧ 52 + 1 = 53 := ⟨by decide +kernel, rfl⟩
theorem dMO_unfit_53 : decode b_MO_unfit 53 = .ok (.ifCond .lt (47), 3) ∧ 53 + 3 = 56 ∧ ((53 : Nat) : Int) + (47) = ((100 : Nat) : Int) := ⟨by decide +kernel, rfl, by decide⟩
theorem dMO_unfit_56 : decode b_MO_unfit 56 = .ok (.aload_n 0, 1) ∧ 56 + 1 = 57 := ⟨by decide +kernel, rfl⟩
theorem dMO_unfit_57 : decode b_MO_unfit 57 = .ok (.getfield 25, 3) ∧ 57 + 3 = 60 := ⟨by decide +kernel, rfl⟩
theorem dMO_unfit_60 : decode b_MO_unfit 60 = .ok (.iload_n 1, 1) ∧ 60 + 1 = 61 := ⟨by decide +kernel, rfl⟩
theorem dMO_unfit_61 : decode b_MO_unfit 61 = .ok (.iaload, 1) ∧ 61 + 1 = 62 := ⟨by decide +kernel, rfl⟩
theorem dMO_unfit_62 : decode b_MO_unfit 62 = .ok (.iconst 4, 1) ∧ 62 + 1 = 63 := ⟨by decide +kernel, rfl⟩
theorem dMO_unfit_63 : decode b_MO_unfit 63 = .ok (.if_icmp .ge (37), 3) ∧ 63 + 3 = 66 ∧ ((63 : Nat) : Int) + (37) = ((100 : Nat) : Int) := ⟨by decide +kernel, rfl, by decide⟩
theorem dMO_unfit_66 : decode b_MO_unfit 66 = .ok (.aload_n 0, 1) ∧ 66 + 1 = 67 := ⟨by decide +kernel, rfl⟩
theorem dMO_unfit_67 : decode b_MO_unfit 67 = .ok (.getfield 28, 3) ∧ 67 + 3 = 70 := ⟨by decide +kernel, rfl⟩
theorem dMO_unfit_70 : decode b_MO_unfit 70 = .ok (.iload_n 1, 1) ∧ 70 + 1 = 71 := ⟨by decide +kernel, rfl⟩
theorem dMO_unfit_71 : decode b_MO_unfit 71 = .ok (.iaload, 1) ∧ 71 + 1 = 72 := ⟨by decide +kernel, rfl⟩
theorem dMO_unfit_72 : decode b_MO_unfit 72 = .ok (.i2l, 1) ∧ 72 + 1 = 73 := ⟨by decide +kernel, rfl⟩
theorem dMO_unfit_73 : decode b_MO_unfit 73 = .ok (.aload_n 0, 1) ∧ 73 + 1 = 74 := ⟨by decide +kernel, rfl⟩
theorem dMO_unfit_74 : decode b_MO_unfit 74 = .ok (.getfield 31, 3) ∧ 74 + 3 = 77 := ⟨by decide +kernel, rfl⟩
theorem dMO_unfit_77 : decode b_MO_unfit 77 = .ok (.iload_n 1, 1) ∧ 77 + 1 = 78 := ⟨by decide +kernel, rfl⟩
theorem dMO_unfit_78 : decode b_MO_unfit 78 = .ok (.iaload, 1) ∧ 78 + 1 = 79 := ⟨by decide +kernel, rfl⟩
theorem dMO_unfit_79 : decode b_MO_unfit 79 = .ok (.i2l, 1) ∧ 79 + 1 = 80 := ⟨by decide +kernel, rfl⟩
theorem dMO_unfit_80 : decode b_MO_unfit 80 = .ok (.ladd, 1) ∧ 80 + 1 = 81 := ⟨by decide +kernel, rfl⟩
theorem dMO_unfit_81 : decode b_MO_unfit 81 = .ok (.aload_n 0, 1) ∧ 81 + 1 = 82 := ⟨by decide +kernel, rfl⟩
theorem dMO_unfit_82 : decode b_MO_unfit 82 = .ok (.getfield 13, 3) ∧ 82 + 3 = 85 := ⟨by decide +kernel, rfl⟩
theorem dMO_unfit_85 : decode b_MO_unfit 85 = .ok (.aload_n 0, 1) ∧ 85 + 1 = 86 := ⟨by decide +kernel, rfl⟩
theorem dMO_unfit_86 : decode b_MO_unfit 86 = .ok (.getfield 25, 3) ∧ 86 + 3 = 89 := ⟨by decide +kernel, rfl⟩
theorem dMO_unfit_89 : decode b_MO_unfit 89 = .ok (.iload_n 1, 1) ∧ 89 + 1 = 90 := ⟨by decide +kernel, rfl⟩
theorem dMO_unfit_90 : decode b_MO_unfit 90 = .ok (.iaload, 1) ∧ 90 + 1 = 91 := ⟨by decide +kernel, rfl⟩
theorem dMO_unfit_91 : decode b_MO_unfit 91 = .ok (.iaload, 1) ∧ 91 + 1 = 92 := ⟨by decide +kernel, rfl⟩
theorem dMO_unfit_92 : decode b_MO_unfit 92 = .ok (.i2l, 1) ∧ 92 + 1 = 93 := ⟨by decide +kernel, rfl⟩
theorem dMO_unfit_93 : decode b_MO_unfit 93 = .ok (.lcmp, 1) ∧ 93 + 1 = 94 := ⟨by decide +kernel, rfl⟩
theorem dMO_unfit_94 : decode b_MO_unfit 94 = .ok (.ifCond .le (6), 3) ∧ 94 + 3 = 97 ∧ ((94 : Nat) : Int) + (6) = ((100 : Nat) : Int) := ⟨by decide +kernel, rfl, by decide⟩
theorem dMO_unfit_97 : decode b_MO_unfit 97 = .ok (.bipush (-2), 2) ∧ 97 + 2 = 99 := ⟨by decide +kernel, rfl⟩
theorem dMO_unfit_99 : decode b_MO_unfit 99 = .ok (.ireturn, 1) ∧ 99 + 1 = 100 := ⟨by decide +kernel, rfl⟩
theorem dMO_unfit_100 : decode b_MO_unfit 100 = .ok (.iinc 1 (1), 3) ∧ 100 + 3 = 103 := ⟨by decide +kernel, rfl⟩
theorem dMO_unfit_103 : decode b_MO_unfit 103 = .ok (.goto (-66), 3) ∧ 103 + 3 = 106 ∧ ((103 : Nat) : Int) + (-66) = ((37 : Nat) : Int) := ⟨by decide +kernel, rfl, by decide⟩
theorem dMO_unfit_106 : decode b_MO_unfit 106 = .ok (.iconst 0, 1) ∧ 106 + 1 = 107 := ⟨by decide +kernel, rfl⟩
theorem dMO_unfit_107 : decode b_MO_unfit 107 = .ok (.istore_n 1, 1) ∧ 107 + 1 = 108 := ⟨by decide +kernel, rfl⟩
theorem dMO_unfit_108 : decode b_MO_unfit 108 = .ok (.iload_n 1, 1) ∧ 108 + 1 = 109 := ⟨by decide +kernel, rfl⟩
theorem dMO_unfit_109 : decode b_MO_unfit 109 = .ok (.aload_n 0, 1) ∧ 109 + 1 = 110 := ⟨by decide +kernel, rfl⟩
theorem dMO_unfit_110 : decode b_MO_unfit 110 = .ok (.getfield 64, 3) ∧ 110 + 3 = 113 := ⟨by decide +kernel, rfl⟩
theorem dMO_unfit_113 : decode b_MO_unfit 113 = .ok (.iconst 0, 1) ∧ 113 + 1 = 114 := ⟨by decide +kernel, rfl⟩
theorem dMO_unfit_114 : decode b_MO_unfit 114 = .ok (.iaload, 1) ∧ 114 + 1 = 115 := ⟨by decide +kernel, rfl⟩
theorem dMO_unfit_115 : decode b_MO_unfit 115 = .ok (.if_icmp .ge (52), 3) ∧ 115 + 3 = 118 ∧ ((115 : Nat) : Int) + (52) = ((167 : Nat) : Int) := ⟨by decide +kernel, rfl, by decide⟩
theorem dMO_unfit_118 : decode b_MO_unfit 118 = .ok (.aload_n 0, 1) ∧ 118 + 1 = 119 := ⟨by decide +kernel, rfl⟩
theorem dMO_unfit_119 : decode b_MO_unfit 119 = .ok (.getfield 52, 3) ∧ 119 + 3 = 122 := ⟨by decide +kernel, rfl⟩
theorem dMO_unfit_122 : decode b_MO_unfit 122 = .ok (.iload_n 1, 1) ∧ 122 + 1 = 123 := ⟨by decide +kernel, rfl⟩
theorem dMO_unfit_123 : decode b_MO_unfit 123 = .ok (.iaload, 1) ∧ 123 + 1 = 124 := ⟨by decide +kernel, rfl⟩
theorem dMO_unfit_124 : decode b_MO_unfit 124 = .ok (.i2l, 1) ∧ 124 + 1 = 125 := ⟨by decide +kernel, rfl⟩
theorem dMO_unfit_125 : decode b_MO_unfit 125 = .ok (.aload_n 0, 1) ∧ 125 + 1 = 126 := ⟨by decide +kernel, rfl⟩
theorem dMO_unfit_126 : decode b_MO_unfit 126 = .ok (.getfield 55, 3) ∧ 126 + 3 = 129 := ⟨by decide +kernel, rfl⟩
theorem dMO_unfit_129 : decode b_MO_unfit 129 = .ok (.iload_n 1, 1) ∧ 129 + 1 = 130 := ⟨by decide +kernel, rfl⟩
theorem dMO_unfit_130 : decode b_MO_unfit 130 = .ok (.iaload, 1) ∧ 130 + 1 = 131 := ⟨by decide +kernel, rfl⟩
theorem dMO_unfit_131 : decode b_MO_unfit 131 = .ok (.aload_n 0, 1) ∧ 131 + 1 = 132 := ⟨by decide +kernel, rfl⟩
theorem dMO_unfit_132 : decode b_MO_unfit 132 = .ok (.getfield 61, 3) ∧ 132 + 3 = 135 := ⟨by decide +kernel, rfl⟩
theorem dMO_unfit_135 : decode b_MO_unfit 135 = .ok (.iload_n 1, 1) ∧ 135 + 1 = 136 := ⟨by decide +kernel, rfl⟩
theorem dMO_unfit_136 : decode b_MO_unfit 136 = .ok (.iaload, 1) ∧ 136 + 1 = 137 := ⟨by decide +kernel, rfl⟩
theorem dMO_unfit_137 : decode b_MO_unfit 137 = .ok (.invokestatic 168, 3) ∧ 137 + 3 = 140 := ⟨by decide +kernel, rfl⟩
theorem dMO_unfit_140 : decode b_MO_unfit 140 = .ok (.i2l, 1) ∧ 140 + 1 = 141 := ⟨by decide +kernel, rfl⟩
theorem dMO_unfit_141 : decode b_MO_unfit 141 = .ok (.ladd, 1) ∧ 141 + 1 = 142 := ⟨by decide +kernel, rfl⟩
theorem dMO_unfit_142 : decode b_MO_unfit 142 = .ok (.aload_n 0, 1) ∧ 142 + 1 = 143 := ⟨by decide +kernel, rfl⟩
theorem dMO_unfit_143 : decode b_MO_unfit 143 = .ok (.getfield 13, 3) ∧ 143 + 3 = 146 := ⟨by decide +kernel, rfl⟩
theorem dMO_unfit_146 : decode b_MO_unfit 146 = .ok (.aload_n 0, 1) ∧ 146 + 1 = 147 := ⟨by decide +kernel, rfl⟩
theorem dMO_unfit_147 : decode b_MO_unfit 147 = .ok (.getfield 49, 3) ∧ 147 + 3 = 150 := ⟨by decide +kernel, rfl⟩
theorem dMO_unfit_150 : decode b_MO_unfit 150 = .ok (.iload_n 1, 1) ∧ 150 + 1 = 151 := ⟨by decide +kernel, rfl⟩
theorem dMO_unfit_151 : decode b_MO_unfit 151 = .ok (.iaload, 1) ∧ 151 + 1 = 152 := ⟨by decide +kernel, rfl⟩
theorem dMO_unfit_152 : decode b_MO_unfit 152 = .ok (.iaload, 1) ∧ 152 + 1 = 153 := ⟨by decide +kernel, rfl⟩
theorem dMO_unfit_153 : decode b_MO_unfit 153 = .ok (.i2l, 1) ∧ 153 + 1 = 154 := ⟨by decide +kernel, rfl⟩
theorem dMO_unfit_154 : decode b_MO_unfit 154 = .ok (.lcmp, 1) ∧ 154 + 1 = 155 := ⟨by decide +kernel, rfl⟩
theorem dMO_unfit_155 : decode b_MO_unfit 155 = .ok (.ifCond .le (6), 3) ∧ 155 + 3 = 158 ∧ ((155 : Nat) : Int) + (6) = ((161 : Nat) : Int) := ⟨by decide +kernel, rfl, by decide⟩
theorem dMO_unfit_158 : decode b_MO_unfit 158 = .ok (.bipush (-3), 2) ∧ 158 + 2 = 160 := ⟨by decide +kernel, rfl⟩
theorem dMO_unfit_160 : decode b_MO_unfit 160 = .ok (.ireturn, 1) ∧ 160 + 1 = 161 := ⟨by decide +kernel, rfl⟩
theorem dMO_unfit_161 : decode b_MO_unfit 161 = .ok (.iinc 1 (1), 3) ∧ 161 + 3 = 164 := ⟨by decide +kernel, rfl⟩
theorem dMO_unfit_164 : decode b_MO_unfit 164 = .ok (.goto (-56), 3) ∧ 164 + 3 = 167 ∧ ((164 : Nat) : Int) + (-56) = ((108 : Nat) : Int) := ⟨by decide +kernel, rfl, by decide⟩
theorem dMO_unfit_167 : decode b_MO_unfit 167 = .ok (.iconst 0, 1) ∧ 167 + 1 = 168 := ⟨by decide +kernel, rfl⟩
theorem dMO_unfit_168 : decode b_MO_unfit 168 = .ok (.ireturn, 1) ∧ 168 + 1 = 169 := ⟨by decide +kernel, rfl⟩
theorem dMO_order_0 : decode b_MO_order 0 = .ok (.iconst 0, 1) ∧ 0 + 1 = 1 := ⟨by decide +kernel, rfl⟩
theorem dMO_order_1 : decode b_MO_order 1 = .ok (.istore_n 1, 1) ∧ 1 + 1 = 2 := ⟨by decide +kernel, rfl⟩
theorem dMO_order_2 : decode b_MO_order 2 = .ok (.iconst 0, 1) ∧ 2 + 1 = 3 := ⟨by decide +kernel, rfl⟩
theorem dMO_order_3 : decode b_MO_order 3 = .ok (.istore_n 2, 1) ∧ 3 + 1 = 4 := ⟨by decide +kernel, rfl⟩
theorem dMO_order_4 : decode b_MO_order 4 = .ok (.iconst 0, 1) ∧ 4 + 1 = 5 := ⟨by decide +kernel, rfl⟩
theorem dMO_order_5 : decode b_MO_order 5 = .ok (.istore_n 3, 1) ∧ 5 + 1 = 6 := ⟨by decide +kernel, rfl⟩
theorem dMO_order_6 : decode b_MO_order 6 = .ok (.iload_n 3, 1) ∧ 6 + 1 = 7 := ⟨by decide +kernel, rfl⟩
theorem dMO_order_7 : decode b_MO_order 7 = .ok (.iconst 2, 1) ∧ 7 + 1 = 8 := ⟨by decide +kernel, rfl⟩
theorem dMO_order_8 : decode b_MO_order 8 = .ok (.if_icmp .ge (80), 3) ∧ 8 + 3 = 11 ∧ ((8 : Nat) : Int) + (80) = ((88 : Nat) : Int) := ⟨by decide +kernel, rfl, by decide⟩
theorem dMO_order_11 : decode b_MO_order 11 = .ok (.iconst 0, 1) ∧ 11 + 1 = 12 := ⟨by decide +kernel, rfl⟩
theorem dMO_order_12 : decode b_MO_order 12 = .ok (.istore 4, 2) ∧ 12 + 2 = 14 := ⟨by decide +kernel, rfl⟩
theorem dMO_order_14 : decode b_MO_order 14 = .ok (.iload 4, 2) ∧ 14 + 2 = 16 := ⟨by decide +kernel, rfl⟩
theorem dMO_order_16 : decode b_MO_order 16 = .ok (.aload_n 0, 1) ∧ 16 + 1 = 17 := ⟨by decide +kernel, rfl⟩
theorem dMO_order_17 : decode b_MO_order 17 = .ok (.getfield 46, 3) ∧ 17 + 3 = 20 := ⟨by decide +kernel, rfl⟩
theorem dMO_order_20 : decode b_MO_order 20 = .ok (.iconst 0, 1) ∧ 20 + 1 = 21 := ⟨by decide +kernel, rfl⟩
theorem dMO_order_21 : decode b_MO_order 21 = .ok (.iaload, 1) ∧ 21 + 1 = 22 := ⟨by decide +kernel, rfl⟩
theorem dMO_order_22 : decode b_MO_order 22 = .ok (.if_icmp .ge (50), 3) ∧ 22 + 3 = 25 ∧ ((22 : Nat) : Int) + (50) = ((72 : Nat) : Int) := ⟨by decide +kernel, rfl, by decide⟩
theorem dMO_order_25 : decode b_MO_order 25 = .ok (.aload_n 0, 1) ∧ 25 + 1 = 26 := ⟨by decide +kernel, rfl⟩
theorem dMO_order_26 : decode b_MO_order 26 = .ok (.getfield 34, 3) ∧ 26 + 3 = 29 := ⟨by decide +kernel, rfl⟩
theorem dMO_order_29 : decode b_MO_order 29 = .ok (.iload 4, 2) ∧ 29 + 2 = 31 := ⟨by decide +kernel, rfl⟩
theorem dMO_order_31 : decode b_MO_order 31 = .ok (.iaload, 1) ∧ 31 + 1 = 32 := ⟨by decide +kernel, rfl⟩
theorem dMO_order_32 : decode b_MO_order 32 = .ok (.ifCond .ne (7), 3) ∧ 32 + 3 = 35 ∧ ((32 : Nat) : Int) + (7) = ((39 : Nat) : Int) := ⟨by decide +kernel, rfl, by decide⟩
theorem dMO_order_35 : decode b_MO_order 35 = .ok (.iconst 1, 1) ∧ 35 + 1 = 36 := ⟨by decide +kernel, rfl⟩
theorem dMO_order_36 : decode b_MO_order 36 = .ok (.goto (4), 3) ∧ 36 + 3 = 39 ∧ ((36 : Nat) : Int) + (4) = ((40 : Nat) : Int) := ⟨by decide +kernel, rfl, by decide⟩
theorem dMO_order_39 : decode b_MO_order 39 = .ok (.iconst 0, 1) ∧ 39 + 1 = 40 := ⟨by decide +kernel, rfl⟩
theorem dMO_order_40 : decode b_MO_order 40 = .ok (.iload_n 3, 1) ∧ 40 + 1 = 41 := ⟨by decide +kernel, rfl⟩
theorem dMO_order_41 : decode b_MO_order 41 = .ok (.ifCond .ne (7), 3) ∧ 41 + 3 = 44 ∧ ((41 : Nat) : Int) + (7) = ((48 : Nat) : Int) := ⟨by decide +kernel, rfl, by decide⟩
theorem dMO_order_44 : decode b_MO_order 44 = .ok (.iconst 1, 1) ∧ 44 + 1 = 45 := ⟨by decide +kernel, rfl⟩
theorem dMO_order_45 : decode b_MO_order 45 = .ok (.goto (4), 3) ∧ 45 + 3 = 48 ∧ ((45 : Nat) : Int) + (4) = ((49 : Nat) : Int) := ⟨by decide +kernel, rfl, by decide⟩
theorem dMO_order_48 : decode b_MO_order 48 = .ok (.iconst 0, 1) ∧ 48 + 1 = 49 := ⟨by decide +kernel, rfl⟩
theorem dMO_order_49 : decode b_MO_order 49 = .ok (.if_icmp .eq (6), 3) ∧ 49 + 3 = 52 ∧ ((49 : Nat) : Int) + (6) = ((55 : Nat) : Int) := ⟨by decide +kernel, rfl, by decide⟩
theorem dMO_order_52 : decode b_MO_order 52 = .ok (.goto (14), 3) ∧ 52 + 3 = 55 ∧ ((52 : Nat) : Int) + (14) = ((66 : Nat) : Int) := ⟨by decide +kernel, rfl, by decide⟩
theorem dMO_order_55 : decode b_MO_order 55 = .ok (.aload_n 0, 1) ∧ 55 + 1 = 56 := ⟨by decide +kernel, rfl⟩
theorem dMO_order_56 : decode b_MO_order 56 = .ok (.getfield 101, 3) ∧ 56 + 3 = 59 := ⟨by decide +kernel, rfl⟩
theorem dMO_order_59 : decode b_MO_order 59 = .ok (.iload 4, 2) ∧ 59 + 2 = 61 := ⟨by decide +kernel, rfl⟩
theorem dMO_order_61 : decode b_MO_order 61 = .ok (.iload_n 1, 1) ∧ 61 + 1 = 62 := ⟨by decide +kernel, rfl⟩
theorem dMO_order_62 : decode b_MO_order 62 = .ok (.iastore, 1) ∧ 62 + 1 = 63 := ⟨by decide +kernel, rfl⟩
theorem dMO_order_63 : decode b_MO_order 63 = .ok (.iinc 1 (1), 3) ∧ 63 + 3 = 66 := ⟨by decide +kernel, rfl⟩
theorem dMO_order_66 : decode b_MO_order 66 = .ok (.iinc 4 (1), 3) ∧ 66 + 3 = 69 := ⟨by decide +kernel, rfl⟩
theorem dMO_order_69 : decode b_MO_order 69 = .ok (.goto (-55), 3) ∧ 69 + 3 = 72 ∧ ((69 : Nat) : Int) + (-55) = ((14 : Nat) : Int) := ⟨by decide +kernel, rfl, by decide⟩
theorem dMO_order_72 : decode b_MO_order 72 = .ok (.iload_n 3, 1) ∧ 72 + 1 = 73 := ⟨by decide +kernel, rfl⟩
theorem dMO_order_73 : decode b_MO_order 73 = .ok (.ifCond .ne (7), 3) ∧ 73 + 3 = 76 ∧ ((73 : Nat) : Int) + (7) = ((80 : Nat) : Int) := ⟨by decide +kernel, rfl, by decide⟩
theorem dMO_order_76 : decode b_MO_order 76 = .ok (.iload_n 1, 1) ∧ 76 + 1 = 77 := ⟨by decide +kernel, rfl⟩
theorem dMO_order_77 : decode b_MO_order 77 = .ok (.goto (4), 3) ∧ 77 + 3 = 80 ∧ ((77 : Nat) : Int) + (4) = ((81 : Nat) : Int) := ⟨by decide +kernel, rfl, by decide⟩
theorem dMO_order_80 : decode b_MO_order 80 = .ok (.iload_n 2, 1) ∧ 80 + 1 = 81 := ⟨by decide +kernel, rfl⟩
theorem dMO_order_81 : decode b_MO_order 81 = .ok (.istore_n 2, 1) ∧ 81 + 1 = 82 := ⟨by decide +kernel, rfl⟩
theorem dMO_order_82 : decode b_MO_order 82 = .ok (.iinc 3 (1), 3) ∧ 82 + 3 = 85 := ⟨by decide +kernel, rfl⟩
theorem dMO_order_85 : decode b_MO_order 85 = .ok (.goto (-79), 3) ∧ 85 + 3 = 88 ∧ ((85 : Nat) : Int) + (-79) = ((6 : Nat) : Int) := ⟨by decide +kernel, rfl, by decide⟩
theorem dMO_order_88 : decode b_MO_order 88 = .ok (.iload_n 2, 1) ∧ 88 + 1 = 89 := ⟨by decide +kernel, rfl⟩
theorem dMO_order_89 : decode b_MO_order 89 = .ok (.ireturn, 1) ∧ 89 + 1 = 90 := ⟨by decide +kernel, rfl⟩
theorem dMO_begin_0 : decode b_MO_begin 0 = .ok (.aload_n 0, 1) ∧ 0 + 1 = 1 := ⟨by decide +kernel, rfl⟩
theorem dMO_begin_1 : decode b_MO_begin 1 = .ok (.getfield 95, 3) ∧ 1 + 3 = 4 := ⟨by decide +kernel, rfl⟩
theorem dMO_begin_4 : decode b_MO_begin 4 = .ok (.iconst 0, 1) ∧ 4 + 1 = 5 := ⟨by decide +kernel, rfl⟩
theorem dMO_begin_5 : decode b_MO_begin 5 = .ok (.iconst 0, 1) ∧ 5 + 1 = 6 := ⟨by decide +kernel, rfl⟩
theorem dMO_begin_6 : decode b_MO_begin 6 = .ok (.iastore, 1) ∧ 6 + 1 = 7 := ⟨by decide +kernel, rfl⟩
theorem dMO_begin_7 : decode b_MO_begin 7 = .ok (.aload_n 0, 1) ∧ 7 + 1 = 8 := ⟨by decide +kernel, rfl⟩
theorem dMO_begin_8 : decode b_MO_begin 8 = .ok (.getfield 92, 3) ∧ 8 + 3 = 11 := ⟨by decide +kernel, rfl⟩
theorem dMO_begin_11 : decode b_MO_begin 11 = .ok (.iconst 0, 1) ∧ 11 + 1 = 12 := ⟨by decide +kernel, rfl⟩
theorem dMO_begin_12 : decode b_MO_begin 12 = .ok (.iconst 0, 1) ∧ 12 + 1 = 13 := ⟨by decide +kernel, rfl⟩
theorem dMO_begin_13 : decode b_MO_begin 13 = .ok (.iastore, 1) ∧ 13 + 1 = 14 := ⟨by decide +kernel, rfl⟩
theorem dMO_begin_14 : decode b_MO_begin 14 = .ok (.aload_n 0, 1) ∧ 14 + 1 = 15 := ⟨by decide +kernel, rfl⟩
theorem dMO_begin_15 : decode b_MO_begin 15 = .ok (.iconst 1, 1) ∧ 15 + 1 = 16 := ⟨by decide +kernel, rfl⟩
theorem dMO_begin_16 : decode b_MO_begin 16 = .ok (.putfield 162, 3) ∧ 16 + 3 = 19 := ⟨by decide +kernel, rfl⟩
theorem dMO_begin_19 : decode b_MO_begin 19 = .ok (.return_, 1) ∧ 19 + 1 = 20 := ⟨by decide +kernel, rfl⟩
theorem dMO_stringFor_0 : decode b_MO_stringFor 0 = .ok (.iconst 0, 1) ∧ 0 + 1 = 1 := ⟨by decide +kernel, rfl⟩
theorem dMO_stringFor_1 : decode b_MO_stringFor 1 = .ok (.istore_n 1, 1) ∧ 1 + 1 = 2 := ⟨by decide +kernel, rfl⟩
theorem dMO_stringFor_2 : decode b_MO_stringFor 2 = .ok (.iload_n 1, 1) ∧ 2 + 1 = 3 := ⟨by decide +kernel, rfl⟩
theorem dMO_stringFor_3 : decode b_MO_stringFor 3 = .ok (.aload_n 0, 1) ∧ 3 + 1 = 4 := ⟨by decide +kernel, rfl⟩
theorem dMO_stringFor_4 : decode b_MO_stringFor 4 = .ok (.getfield 165, 3) ∧ 4 + 3 = 7 := ⟨by decide +kernel, rfl⟩
theorem dMO_stringFor_7 : decode b_MO_stringFor 7 = .ok (.iadd, 1) ∧ 7 + 1 = 8 := ⟨by decide +kernel, rfl⟩
theorem dMO_stringFor_8 : decode b_MO_stringFor 8 = .ok (.aload_n 0, 1) ∧ 8 + 1 = 9 := ⟨by decide +kernel, rfl⟩
theorem dMO_stringFor_9 : decode b_MO_stringFor 9 = .ok (.getfield 162, 3) ∧ 9 + 3 = 12 := ⟨by decide +kernel, rfl⟩
theorem dMO_stringFor_12 : decode b_MO_stringFor 12 = .ok (.if_icmp .ge (78), 3) ∧ 12 + 3 = 15 ∧ ((12 : Nat) : Int) + (78) = ((90 : Nat) : Int) := ⟨by decide +kernel, rfl, by decide⟩
theorem dMO_stringFor_15 : decode b_MO_stringFor 15 = .ok (.aload_n 0, 1) ∧ 15 + 1 = 16 := ⟨by decide +kernel, rfl⟩
theorem dMO_stringFor_16 : decode b_MO_stringFor 16 = .ok (.getfield 92, 3) ∧ 16 + 3 = 19 := ⟨by decide +kernel, rfl⟩
theorem dMO_stringFor_19 : decode b_MO_stringFor 19 = .ok (.iload_n 1, 1) ∧ 19 + 1 = 20 := ⟨by decide +kernel, rfl⟩
theorem dMO_stringFor_20 : decode b_MO_stringFor 20 = .ok (.aload_n 0, 1) ∧ 20 + 1 = 21 := ⟨by decide +kernel, rfl⟩
theorem dMO_stringFor_21 : decode b_MO_stringFor 21 = .ok (.getfield 165, 3) ∧ 21 + 3 = 24 := ⟨by decide +kernel, rfl⟩
theorem dMO_stringFor_24 : decode b_MO_stringFor 24 = .ok (.iadd, 1) ∧ 24 + 1 = 25 := ⟨by decide +kernel, rfl⟩
theorem dMO_stringFor_25 : decode b_MO_stringFor 25 = .ok (.iaload, 1) ∧ 25 + 1 = 26 := ⟨by decide +kernel, rfl⟩
theorem dMO_stringFor_26 : decode b_MO_stringFor 26 = .ok (.ifCond .ne (7), 3) ∧ 26 + 3 = 29 ∧ ((26 : Nat) : Int) + (7) = ((33 : Nat) : Int) := ⟨by decide +kernel, rfl, by decide⟩
theorem dMO_stringFor_29 : decode b_MO_stringFor 29 = .ok (.iconst 1, 1) ∧ 29 + 1 = 30 := ⟨by decide +kernel, rfl⟩
theorem dMO_stringFor_30 : decode b_MO_stringFor 30 = .ok (.goto (4), 3) ∧ 30 + 3 = 33 ∧ ((30 : Nat) : Int) + (4) = ((34 : Nat) : Int) := ⟨by decide +kernel, rfl, by decide⟩
theorem dMO_stringFor_33 : decode b_MO_stringFor 33 = .ok (.iconst 0, 1) ∧ 33 + 1 = 34 := ⟨by decide +kernel, rfl⟩
theorem dMO_stringFor_34 : decode b_MO_stringFor 34 = .ok (.istore_n 2, 1) ∧ 34 + 1 = 35 := ⟨by decide +kernel, rfl⟩
theorem dMO_stringFor_35 : decode b_MO_stringFor 35 = .ok (.iconst 0, 1) ∧ 35 + 1 = 36 := ⟨by decide +kernel, rfl⟩
theorem dMO_stringFor_36 : decode b_MO_stringFor 36 = .ok (.istore_n 3, 1) ∧ 36 + 1 = 37 := ⟨by decide +kernel, rfl⟩
theorem dMO_stringFor_37 : decode b_MO_stringFor 37 = .ok (.iload_n 3, 1) ∧ 37 + 1 = 38 := ⟨by decide +kernel, rfl⟩
theorem dMO_stringFor_38 : decode b_MO_stringFor 38 = .ok (.aload_n 0, 1) ∧ 38 + 1 = 39 := ⟨by decide +kernel, rfl⟩
theorem dMO_stringFor_39 : decode b_MO_stringFor 39 = .ok (.getfield 165, 3) ∧ 39 + 3 = 42 := ⟨by decide +kernel, rfl⟩
theorem dMO_stringFor_42 : decode b_MO_stringFor 42 = .ok (.if_icmp .ge (36), 3) ∧ 42 + 3 = 45 ∧ ((42 : Nat) : Int) + (36) = ((78 : Nat) : Int) := ⟨by decide +kernel, rfl, by decide⟩
theorem dMO_stringFor_45 : decode b_MO_stringFor 45 = .ok (.iload_n 2, 1) ∧ 45 + 1 = 46 := ⟨by decide +kernel, rfl⟩
theorem dMO_stringFor_46 : decode b_MO_stringFor 46 = .ok (.ifCond .eq (32), 3) ∧ 46 + 3 = 49 ∧ ((46 : Nat) : Int) + (32) = ((78 : Nat) : Int) := ⟨by decide +kernel, rfl, by decide⟩
theorem dMO_stringFor_49 : decode b_MO_stringFor 49 = .ok (.aload_n 0, 1) ∧ 49 + 1 = 50 := ⟨by decide +kernel, rfl⟩
theorem dMO_stringFor_50 : decode b_MO_stringFor 50 = .ok (.getfield 92, 3) ∧ 50 + 3 = 53 := ⟨by decide +kernel, rfl⟩
theorem dMO_stringFor_53 : decode b_MO_stringFor 53 = .ok (.iload_n 1, 1) ∧ 53 + 1 = 54 := ⟨by decide +kernel, rfl⟩
theorem dMO_stringFor_54 : decode b_MO_stringFor 54 = .ok (.iload_n 3, 1) ∧ 54 + 1 = 55 := ⟨by decide +kernel, rfl⟩
theorem dMO_stringFor_55 : decode b_MO_stringFor 55 = .ok (.iadd, 1) ∧ 55 + 1 = 56 := ⟨by decide +kernel, rfl⟩
theorem dMO_stringFor_56 : decode b_MO_stringFor 56 = .ok (.iaload, 1) ∧ 56 + 1 = 57 := ⟨by decide +kernel, rfl⟩
theorem dMO_stringFor_57 : decode b_MO_stringFor 57 = .ok (.aload_n 0, 1) ∧ 57 + 1 = 58 := ⟨by decide +kernel, rfl⟩
theorem dMO_stringFor_58 : decode b_MO_stringFor 58 = .ok (.getfield 95, 3) ∧ 58 + 3 = 61 := ⟨by decide +kernel, rfl⟩
theorem dMO_stringFor_61 : decode b_MO_stringFor 61 = .ok (.iload_n 3, 1) ∧ 61 + 1 = 62 := ⟨by decide +kernel, rfl⟩
theorem dMO_stringFor_62 : decode b_MO_stringFor 62 = .ok (.iaload, 1) ∧ 62 + 1 = 63 := ⟨by decide +kernel, rfl⟩
theorem dMO_stringFor_63 : decode b_MO_stringFor 63 = .ok (.if_icmp .ne (7), 3) ∧ 63 + 3 = 66 ∧ ((63 : Nat) : Int) + (7) = ((70 : Nat) : Int) := ⟨by decide +kernel, rfl, by decide⟩
theorem dMO_stringFor_66 : decode b_MO_stringFor 66 = .ok (.iconst 1, 1) ∧ 66 + 1 = 67 := ⟨by decide +kernel, rfl⟩
theorem dMO_stringFor_67 : decode b_MO_stringFor 67 = .ok (.goto (4), 3) ∧ 67 + 3 = 70 ∧ ((67 : Nat) : Int) + (4) = ((71 : Nat) : Int) := ⟨by decide +kernel, rfl, by decide⟩
theorem dMO_stringFor_70 : decode b_MO_stringFor 70 = .ok (.iconst 0, 1) ∧ 70 + 1 = 71 := ⟨by decide +kernel, rfl⟩
theorem dMO_stringFor_71 : decode b_MO_stringFor 71 = .ok (.istore_n 2, 1) ∧ 71 + 1 = 72 := ⟨by decide +kernel, rfl⟩
theorem dMO_stringFor_72 : decode b_MO_stringFor 72 = .ok (.iinc 3 (1), 3) ∧ 72 + 3 = 75 := ⟨by decide +kernel, rfl⟩
theorem dMO_stringFor_75 : decode b_MO_stringFor 75 = .ok (.goto (-38), 3) ∧ 75 + 3 = 78 ∧ ((75 : Nat) : Int) + (-38) = ((37 : Nat) : Int) := ⟨by decide +kernel, rfl, by decide⟩
theorem dMO_stringFor_78 : decode b_MO_stringFor 78 = .ok (.iload_n 2, 1) ∧ 78 + 1 = 79 := ⟨by decide +kernel, rfl⟩
theorem dMO_stringFor_79 : decode b_MO_stringFor 79 = .ok (.ifCond .eq (5), 3) ∧ 79 + 3 = 82 ∧ ((79 : Nat) : Int) + (5) = ((84 : Nat) : Int) := ⟨by decide +kernel, rfl, by decide⟩
theorem dMO_stringFor_82 : decode b_MO_stringFor 82 = .ok (.iload_n 1, 1) ∧ 82 + 1 = 83 := ⟨by decide +kernel, rfl⟩
theorem dMO_stringFor_83 : decode b_MO_stringFor 83 = .ok (.ireturn, 1) ∧ 83 + 1 = 84 := ⟨by decide +kernel, rfl⟩
theorem dMO_stringFor_84 : decode b_MO_stringFor 84 = .ok (.iinc 1 (1), 3) ∧ 84 + 3 = 87 := ⟨by decide +kernel, rfl⟩
theorem dMO_stringFor_87 : decode b_MO_stringFor 87 = .ok (.goto (-85), 3) ∧ 87 + 3 = 90 ∧ ((87 : Nat) : Int) + (-85) = ((2 : Nat) : Int) := ⟨by decide +kernel, rfl, by decide⟩
theorem dMO_stringFor_90 : decode b_MO_stringFor 90 = .ok (.aload_n 0, 1) ∧ 90 + 1 = 91 := ⟨by decide +kernel, rfl⟩
theorem dMO_stringFor_91 : decode b_MO_stringFor 91 = .ok (.getfield 162, 3) ∧ 91 + 3 = 94 := ⟨by decide +kernel, rfl⟩
theorem dMO_stringFor_94 : decode b_MO_stringFor 94 = .ok (.istore_n 1, 1) ∧ 94 + 1 = 95 := ⟨by decide +kernel, rfl⟩
theorem dMO_stringFor_95 : decode b_MO_stringFor 95 = .ok (.iconst 0, 1) ∧ 95 + 1 = 96 := ⟨by decide +kernel, rfl⟩
theorem dMO_stringFor_96 : decode b_MO_stringFor 96 = .ok (.istore_n 2, 1) ∧ 96 + 1 = 97 := ⟨by decide +kernel, rfl⟩
theorem dMO_stringFor_97 : decode b_MO_stringFor 97 = .ok (.iload_n 2, 1) ∧ 97 + 1 = 98 := ⟨by decide +kernel, rfl⟩
theorem dMO_stringFor_98 : decode b_MO_stringFor 98 = .ok (.aload_n 0, 1) ∧ 98 + 1 = 99 := ⟨by decide +kernel, rfl⟩
theorem dMO_stringFor_99 : decode b_MO_stringFor 99 = .ok (.getfield 165, 3) ∧ 99 + 3 = 102 := ⟨by decide +kernel, rfl⟩
theorem dMO_stringFor_102 : decode b_MO_stringFor 102 = .ok (.if_icmp .ge (23), 3) ∧ 102 + 3 = 105 ∧ ((102 : Nat) : Int) + (23) = ((125 : Nat) : Int) := ⟨by decide +kernel, rfl, by decide⟩
theorem dMO_stringFor_105 : decode b_MO_stringFor 105 = .ok (.aload_n 0, 1) ∧ 105 + 1 = 106 := ⟨by decide +kernel, rfl⟩
theorem dMO_stringFor_106 : decode b_MO_stringFor 106 = .ok (.getfield 92, 3) ∧ 106 + 3 = 109 := ⟨by decide +kernel, rfl⟩
theorem dMO_stringFor_109 : decode b_MO_stringFor 109 = .ok (.iload_n 1, 1) ∧ 109 + 1 = 110 := ⟨by decide +kernel, rfl⟩
theorem dMO_stringFor_110 : decode b_MO_stringFor 110 = .ok (.iload_n 2, 1) ∧ 110 + 1 = 111 := ⟨by decide +kernel, rfl⟩
theorem dMO_stringFor_111 : decode b_MO_stringFor 111 = .ok (.iadd, 1) ∧ 111 + 1 = 112 := ⟨by decide +kernel, rfl⟩
theorem dMO_stringFor_112 : decode b_MO_stringFor 112 = .ok (.aload_n 0, 1) ∧ 112 + 1 = 113 := ⟨by decide +kernel, rfl⟩
theorem dMO_stringFor_113 : decode b_MO_stringFor 113 = .ok (.getfield 95, 3) ∧ 113 + 3 = 116 := ⟨by decide +kernel, rfl⟩
theorem dMO_stringFor_116 : decode b_MO_stringFor 116 = .ok (.iload_n 2, 1) ∧ 116 + 1 = 117 := ⟨by decide +kernel, rfl⟩
theorem dMO_stringFor_117 : decode b_MO_stringFor 117 = .ok (.iaload, 1) ∧ 117 + 1 = 118 := ⟨by decide +kernel, rfl⟩
theorem dMO_stringFor_118 : decode b_MO_stringFor 118 = .ok (.iastore, 1) ∧ 118 + 1 = 119 := ⟨by decide +kernel, rfl⟩
theorem dMO_stringFor_119 : decode b_MO_stringFor 119 = .ok (.iinc 2 (1), 3) ∧ 119 + 3 = 122 := ⟨by decide +kernel, rfl⟩
theorem dMO_stringFor_122 : decode b_MO_stringFor 122 = .ok (.goto (-25), 3) ∧ 122 + 3 = 125 ∧ ((122 : Nat) : Int) + (-25) = ((97 : Nat) : Int) := ⟨by decide +kernel, rfl, by decide⟩
theorem dMO_stringFor_125 : decode b_MO_stringFor 125 = .ok (.aload_n 0, 1) ∧ 125 + 1 = 126 := ⟨by decide +kernel, rfl⟩
theorem dMO_stringFor_126 : decode b_MO_stringFor 126 = .ok (.getfield 92, 3) ∧ 126 + 3 = 129 := ⟨by decide +kernel, rfl⟩
theorem dMO_stringFor_129 : decode b_MO_stringFor 129 = .ok (.iload_n 1, 1) ∧ 129 + 1 = 130 := ⟨by decide +kernel, rfl⟩
theorem dMO_stringFor_130 : decode b_MO_stringFor 130 = .ok (.aload_n 0, 1) ∧ 130 + 1 = 131 := ⟨by decide +kernel, rfl⟩
theorem dMO_stringFor_131 : decode b_MO_stringFor 131 = .ok (.getfield 165, 3) ∧ 131 + 3 = 134 := ⟨by decide +kernel, rfl⟩
theorem dMO_stringFor_134 : decode b_MO_stringFor 134 = .ok (.iadd, 1) ∧ 134 + 1 = 135 := ⟨by decide +kernel, rfl⟩
theorem dMO_stringFor_135 : decode b_MO_stringFor 135 = .ok (.iconst 0, 1) ∧ 135 + 1 = 136 := ⟨by decide +kernel, rfl⟩
theorem dMO_stringFor_136 : decode b_MO_stringFor 136 = .ok (.iastore, 1) ∧ 136 + 1 = 137 := ⟨by decide +kernel, rfl⟩
theorem dMO_stringFor_137 : decode b_MO_stringFor 137 = .ok (.aload_n 0, 1) ∧ 137 + 1 = 138 := ⟨by decide +kernel, rfl⟩
theorem dMO_stringFor_138 : decode b_MO_stringFor 138 = .ok (.iload_n 1, 1) ∧ 138 + 1 = 139 := ⟨by decide +kernel, rfl⟩
theorem dMO_stringFor_139 : decode b_MO_stringFor 139 = .ok (.aload_n 0, 1) ∧ 139 + 1 = 140 := ⟨by decide +kernel, rfl⟩
theorem dMO_stringFor_140 : decode b_MO_stringFor 140 = .ok (.getfield 165, 3) ∧ 140 + 3 = 143 := ⟨by decide +kernel, rfl⟩
theorem dMO_stringFor_143 : decode b_MO_stringFor 143 = .ok (.iadd, 1) ∧ 143 + 1 = 144 := ⟨by decide +kernel, rfl⟩
theorem dMO_stringFor_144 : decode b_MO_stringFor 144 = .ok (.iconst 1, 1) ∧ 144 + 1 = 145 := ⟨by decide +kernel, rfl⟩
theorem dMO_stringFor_145 : decode b_MO_stringFor 145 = .ok (.iadd, 1) ∧ 145 + 1 = 146 := ⟨by decide +kernel, rfl⟩
theorem dMO_stringFor_146 : decode b_MO_stringFor 146 = .ok (.putfield 162, 3) ∧ 146 + 3 = 149 := ⟨by decide +kernel, rfl⟩
theorem dMO_stringFor_149 : decode b_MO_stringFor 149 = .ok (.iload_n 1, 1) ∧ 149 + 1 = 150 := ⟨by decide +kernel, rfl⟩
theorem dMO_stringFor_150 : decode b_MO_stringFor 150 = .ok (.ireturn, 1) ∧ 150 + 1 = 151 := ⟨by decide +kernel, rfl⟩
theorem dMO_sizeOfSymbolNames_0 : decode b_MO_sizeOfSymbolNames 0 = .ok (.aload_n 0, 1) ∧ 0 + 1 = 1 := ⟨by decide +kernel, rfl⟩
theorem dMO_sizeOfSymbolNames_1 : decode b_MO_sizeOfSymbolNames 1 = .ok (.invokevirtual 172, 3) ∧ 1 + 3 = 4 := ⟨by decide +kernel, rfl⟩
theorem dMO_sizeOfSymbolNames_4 : decode b_MO_sizeOfSymbolNames 4 = .ok (.iconst 0, 1) ∧ 4 + 1 = 5 := ⟨by decide +kernel, rfl⟩
theorem dMO_sizeOfSymbolNames_5 : decode b_MO_sizeOfSymbolNames 5 = .ok (.istore_n 1, 1) ∧ 5 + 1 = 6 := ⟨by decide +kernel, rfl⟩
theorem dMO_sizeOfSymbolNames_6 : decode b_MO_sizeOfSymbolNames 6 = .ok (.iload_n 1, 1) ∧ 6 + 1 = 7 := ⟨by decide +kernel, rfl⟩
theorem dMO_sizeOfSymbolNames_7 : decode b_MO_sizeOfSymbolNames 7 = .ok (.aload_n 0, 1) ∧ 7 + 1 = 8 := ⟨by decide +kernel, rfl⟩
theorem dMO_sizeOfSymbolNames_8 : decode b_MO_sizeOfSymbolNames 8 = .ok (.getfield 46, 3) ∧ 8 + 3 = 11 := ⟨by decide +kernel, rfl⟩
theorem dMO_sizeOfSymbolNames_11 : decode b_MO_sizeOfSymbolNames 11 = .ok (.iconst 0, 1) ∧ 11 + 1 = 12 := ⟨by decide +kernel, rfl⟩
theorem dMO_sizeOfSymbolNames_12 : decode b_MO_sizeOfSymbolNames 12 = .ok (.iaload, 1) ∧ 12 + 1 = 13 := ⟨by decide +kernel, rfl⟩
theorem dMO_sizeOfSymbolNames_13 : decode b_MO_sizeOfSymbolNames 13 = .ok (.if_icmp .ge (93), 3) ∧ 13 + 3 = 16 ∧ ((13 : Nat) : Int) + (93) = ((106 : Nat) : Int) := ⟨by decide +kernel, rfl, by decide⟩
theorem dMO_sizeOfSymbolNames_16 : decode b_MO_sizeOfSymbolNames 16 = .ok (.iconst 0, 1) ∧ 16 + 1 = 17 := ⟨by decide +kernel, rfl⟩
theorem dMO_sizeOfSymbolNames_17 : decode b_MO_sizeOfSymbolNames 17 = .ok (.istore_n 2, 1) ∧ 17 + 1 = 18 := ⟨by decide +kernel, rfl⟩
theorem dMO_sizeOfSymbolNames_18 : decode b_MO_sizeOfSymbolNames 18 = .ok (.iload_n 2, 1) ∧ 18 + 1 = 19 := ⟨by decide +kernel, rfl⟩
theorem dMO_sizeOfSymbolNames_19 : decode b_MO_sizeOfSymbolNames 19 = .ok (.aload_n 0, 1) ∧ 19 + 1 = 20 := ⟨by decide +kernel, rfl⟩
theorem dMO_sizeOfSymbolNames_20 : decode b_MO_sizeOfSymbolNames 20 = .ok (.getfield 46, 3) ∧ 20 + 3 = 23 := ⟨by decide +kernel, rfl⟩
theorem dMO_sizeOfSymbolNames_23 : decode b_MO_sizeOfSymbolNames 23 = .ok (.iconst 0, 1) ∧ 23 + 1 = 24 := ⟨by decide +kernel, rfl⟩
theorem dMO_sizeOfSymbolNames_24 : decode b_MO_sizeOfSymbolNames 24 = .ok (.iaload, 1) ∧ 24 + 1 = 25 := ⟨by decide +kernel, rfl⟩
theorem dMO_sizeOfSymbolNames_25 : decode b_MO_sizeOfSymbolNames 25 = .ok (.if_icmp .ge (75), 3) ∧ 25 + 3 = 28 ∧ ((25 : Nat) : Int) + (75) = ((100 : Nat) : Int) := ⟨by decide +kernel, rfl, by decide⟩
theorem dMO_sizeOfSymbolNames_28 : decode b_MO_sizeOfSymbolNames 28 = .ok (.aload_n 0, 1) ∧ 28 + 1 = 29 := ⟨by decide +kernel, rfl⟩
theorem dMO_sizeOfSymbolNames_29 : decode b_MO_sizeOfSymbolNames 29 = .ok (.getfield 101, 3) ∧ 29 + 3 = 32 := ⟨by decide +kernel, rfl⟩
theorem dMO_sizeOfSymbolNames_32 : decode b_MO_sizeOfSymbolNames 32 = .ok (.iload_n 2, 1) ∧ 32 + 1 = 33 := ⟨by decide +kernel, rfl⟩
theorem dMO_sizeOfSymbolNames_33 : decode b_MO_sizeOfSymbolNames 33 = .ok (.iaload, 1) ∧ 33 + 1 = 34 := ⟨by decide +kernel, rfl⟩
theorem dMO_sizeOfSymbolNames_34 : decode b_MO_sizeOfSymbolNames 34 = .ok (.iload_n 1, 1) ∧ 34 + 1 = 35 := ⟨by decide +kernel, rfl⟩
theorem dMO_sizeOfSymbolNames_35 : decode b_MO_sizeOfSymbolNames 35 = .ok (.if_icmp .eq (6), 3) ∧ 35 + 3 = 38 ∧ ((35 : Nat) : Int) + (6) = ((41 : Nat) : Int) := ⟨by decide +kernel, rfl, by decide⟩
theorem dMO_sizeOfSymbolNames_38 : decode b_MO_sizeOfSymbolNames 38 = .ok (.goto (56), 3) ∧ 38 + 3 = 41 ∧ ((38 : Nat) : Int) + (56) = ((94 : Nat) : Int) := ⟨by decide +kernel, rfl, by decide⟩
theorem dMO_sizeOfSymbolNames_41 : decode b_MO_sizeOfSymbolNames 41 = .ok (.aload_n 0, 1) ∧ 41 + 1 = 42 := ⟨by decide +kernel, rfl⟩
theorem dMO_sizeOfSymbolNames_42 : decode b_MO_sizeOfSymbolNames 42 = .ok (.aload_n 0, 1) ∧ 42 + 1 = 43 := ⟨by decide +kernel, rfl⟩
theorem dMO_sizeOfSymbolNames_43 : decode b_MO_sizeOfSymbolNames 43 = .ok (.getfield 40, 3) ∧ 43 + 3 = 46 := ⟨by decide +kernel, rfl⟩
theorem dMO_sizeOfSymbolNames_46 : decode b_MO_sizeOfSymbolNames 46 = .ok (.iload_n 2, 1) ∧ 46 + 1 = 47 := ⟨by decide +kernel, rfl⟩
theorem dMO_sizeOfSymbolNames_47 : decode b_MO_sizeOfSymbolNames 47 = .ok (.iaload, 1) ∧ 47 + 1 = 48 := ⟨by decide +kernel, rfl⟩
theorem dMO_sizeOfSymbolNames_48 : decode b_MO_sizeOfSymbolNames 48 = .ok (.putfield 165, 3) ∧ 48 + 3 = 51 := ⟨by decide +kernel, rfl⟩
theorem dMO_sizeOfSymbolNames_51 : decode b_MO_sizeOfSymbolNames 51 = .ok (.iconst 0, 1) ∧ 51 + 1 = 52 := ⟨by decide +kernel, rfl⟩
theorem dMO_sizeOfSymbolNames_52 : decode b_MO_sizeOfSymbolNames 52 = .ok (.istore_n 3, 1) ∧ 52 + 1 = 53 := ⟨by decide +kernel, rfl⟩
theorem dMO_sizeOfSymbolNames_53 : decode b_MO_sizeOfSymbolNames 53 = .ok (.iload_n 3, 1) ∧ 53 + 1 = 54 := ⟨by decide +kernel, rfl⟩
theorem dMO_sizeOfSymbolNames_54 : decode b_MO_sizeOfSymbolNames 54 = .ok (.aload_n 0, 1) ∧ 54 + 1 = 55 := ⟨by decide +kernel, rfl⟩
theorem dMO_sizeOfSymbolNames_55 : decode b_MO_sizeOfSymbolNames 55 = .ok (.getfield 165, 3) ∧ 55 + 3 = 58 := ⟨by decide +kernel, rfl⟩
theorem dMO_sizeOfSymbolNames_58 : decode b_MO_sizeOfSymbolNames 58 = .ok (.if_icmp .ge (26), 3) ∧ 58 + 3 = 61 ∧ ((58 : Nat) : Int) + (26) = ((84 : Nat) : Int) := ⟨by decide +kernel, rfl, by decide⟩
theorem dMO_sizeOfSymbolNames_61 : decode b_MO_sizeOfSymbolNames 61 = .ok (.aload_n 0, 1) ∧ 61 + 1 = 62 := ⟨by decide +kernel, rfl⟩
theorem dMO_sizeOfSymbolNames_62 : decode b_MO_sizeOfSymbolNames 62 = .ok (.getfield 95, 3) ∧ 62 + 3 = 65 := ⟨by decide +kernel, rfl⟩
theorem dMO_sizeOfSymbolNames_65 : decode b_MO_sizeOfSymbolNames 65 = .ok (.iload_n 3, 1) ∧ 65 + 1 = 66 := ⟨by decide +kernel, rfl⟩
theorem dMO_sizeOfSymbolNames_66 : decode b_MO_sizeOfSymbolNames 66 = .ok (.aload_n 0, 1) ∧ 66 + 1 = 67 := ⟨by decide +kernel, rfl⟩
theorem dMO_sizeOfSymbolNames_67 : decode b_MO_sizeOfSymbolNames 67 = .ok (.getfield 43, 3) ∧ 67 + 3 = 70 := ⟨by decide +kernel, rfl⟩
theorem dMO_sizeOfSymbolNames_70 : decode b_MO_sizeOfSymbolNames 70 = .ok (.bipush (16), 2) ∧ 70 + 2 = 72 := ⟨by decide +kernel, rfl⟩
theorem dMO_sizeOfSymbolNames_72 : decode b_MO_sizeOfSymbolNames 72 = .ok (.iload_n 2, 1) ∧ 72 + 1 = 73 := ⟨by decide +kernel, rfl⟩
theorem dMO_sizeOfSymbolNames_73 : decode b_MO_sizeOfSymbolNames 73 = .ok (.imul, 1) ∧ 73 + 1 = 74 := ⟨by decide +kernel, rfl⟩
theorem dMO_sizeOfSymbolNames_74 : decode b_MO_sizeOfSymbolNames 74 = .ok (.iload_n 3, 1) ∧ 74 + 1 = 75 := ⟨by decide +kernel, rfl⟩
theorem dMO_sizeOfSymbolNames_75 : decode b_MO_sizeOfSymbolNames 75 = .ok (.iadd, 1) ∧ 75 + 1 = 76 := ⟨by decide +kernel, rfl⟩
theorem dMO_sizeOfSymbolNames_76 : decode b_MO_sizeOfSymbolNames 76 = .ok (.iaload, 1) ∧ 76 + 1 = 77 := ⟨by decide +kernel, rfl⟩
theorem dMO_sizeOfSymbolNames_77 : decode b_MO_sizeOfSymbolNames 77 = .ok (.iastore, 1) ∧ 77 + 1 = 78 := ⟨by decide +kernel, rfl⟩
theorem dMO_sizeOfSymbolNames_78 : decode b_MO_sizeOfSymbolNames 78 = .ok (.iinc 3 (1), 3) ∧ 78 + 3 = 81 := ⟨by decide +kernel, rfl⟩
theorem dMO_sizeOfSymbolNames_81 : decode b_MO_sizeOfSymbolNames 81 = .ok (.goto (-28), 3) ∧ 81 + 3 = 84 ∧ ((81 : Nat) : Int) + (-28) = ((53 : Nat) : Int) := ⟨by decide +kernel, rfl, by decide⟩
theorem dMO_sizeOfSymbolNames_84 : decode b_MO_sizeOfSymbolNames 84 = .ok (.aload_n 0, 1) ∧ 84 + 1 = 85 := ⟨by decide +kernel, rfl⟩
theorem dMO_sizeOfSymbolNames_85 : decode b_MO_sizeOfSymbolNames 85 = .ok (.getfield 98, 3) ∧ 85 + 3 = 88 := ⟨by decide +kernel, rfl⟩
theorem dMO_sizeOfSymbolNames_88 : decode b_MO_sizeOfSymbolNames 88 = .ok (.iload_n 2, 1) ∧ 88 + 1 = 89 := ⟨by decide +kernel, rfl⟩
theorem dMO_sizeOfSymbolNames_89 : decode b_MO_sizeOfSymbolNames 89 = .ok (.aload_n 0, 1) ∧ 89 + 1 = 90 := ⟨by decide +kernel, rfl⟩
theorem dMO_sizeOfSymbolNames_90 : decode b_MO_sizeOfSymbolNames 90 = .ok (.invokevirtual 175, 3) ∧ 90 + 3 = 93 := ⟨by decide +kernel, rfl⟩
theorem dMO_sizeOfSymbolNames_93 : decode b_MO_sizeOfSymbolNames 93 = .ok (.iastore, 1) ∧ 93 + 1 = 94 := ⟨by decide +kernel, rfl⟩
theorem dMO_sizeOfSymbolNames_94 : decode b_MO_sizeOfSymbolNames 94 = .ok (.iinc 2 (1), 3) ∧ 94 + 3 = 97 := ⟨by decide +kernel, rfl⟩
theorem dMO_sizeOfSymbolNames_97 : decode b_MO_sizeOfSymbolNames 97 = .ok (.goto (-79), 3) ∧ 97 + 3 = 100 ∧ ((97 : Nat) : Int) + (-79) = ((18 : Nat) : Int) := ⟨by decide +kernel, rfl, by decide⟩
theorem dMO_sizeOfSymbolNames_100 : decode b_MO_sizeOfSymbolNames 100 = .ok (.iinc 1 (1), 3) ∧ 100 + 3 = 103 := ⟨by decide +kernel, rfl⟩
theorem dMO_sizeOfSymbolNames_103 : decode b_MO_sizeOfSymbolNames 103 = .ok (.goto (-97), 3) ∧ 103 + 3 = 106 ∧ ((103 : Nat) : Int) + (-97) = ((6 : Nat) : Int) := ⟨by decide +kernel, rfl, by decide⟩
theorem dMO_sizeOfSymbolNames_106 : decode b_MO_sizeOfSymbolNames 106 = .ok (.aload_n 0, 1) ∧ 106 + 1 = 107 := ⟨by decide +kernel, rfl⟩
theorem dMO_sizeOfSymbolNames_107 : decode b_MO_sizeOfSymbolNames 107 = .ok (.getfield 162, 3) ∧ 107 + 3 = 110 := ⟨by decide +kernel, rfl⟩
theorem dMO_sizeOfSymbolNames_110 : decode b_MO_sizeOfSymbolNames 110 = .ok (.ireturn, 1) ∧ 110 + 1 = 111 := ⟨by decide +kernel, rfl⟩
theorem dMO_takeTitle_0 : decode b_MO_takeTitle 0 = .ok (.aload_n 0, 1) ∧ 0 + 1 = 1 := ⟨by decide +kernel, rfl⟩
theorem dMO_takeTitle_1 : decode b_MO_takeTitle 1 = .ok (.iconst 0, 1) ∧ 1 + 1 = 2 := ⟨by decide +kernel, rfl⟩
theorem dMO_takeTitle_2 : decode b_MO_takeTitle 2 = .ok (.putfield 165, 3) ∧ 2 + 3 = 5 := ⟨by decide +kernel, rfl⟩
theorem dMO_takeTitle_5 : decode b_MO_takeTitle 5 = .ok (.aload_n 0, 1) ∧ 5 + 1 = 6 := ⟨by decide +kernel, rfl⟩
theorem dMO_takeTitle_6 : decode b_MO_takeTitle 6 = .ok (.getfield 80, 3) ∧ 6 + 3 = 9 := ⟨by decide +kernel, rfl⟩
theorem dMO_takeTitle_9 : decode b_MO_takeTitle 9 = .ok (.iload_n 1, 1) ∧ 9 + 1 = 10 := ⟨by decide +kernel, rfl⟩
theorem dMO_takeTitle_10 : decode b_MO_takeTitle 10 = .ok (.iaload, 1) ∧ 10 + 1 = 11 := ⟨by decide +kernel, rfl⟩
theorem dMO_takeTitle_11 : decode b_MO_takeTitle 11 = .ok (.istore_n 2, 1) ∧ 11 + 1 = 12 := ⟨by decide +kernel, rfl⟩
theorem dMO_takeTitle_12 : decode b_MO_takeTitle 12 = .ok (.aload_n 0, 1) ∧ 12 + 1 = 13 := ⟨by decide +kernel, rfl⟩
theorem dMO_takeTitle_13 : decode b_MO_takeTitle 13 = .ok (.getfield 77, 3) ∧ 13 + 3 = 16 := ⟨by decide +kernel, rfl⟩
theorem dMO_takeTitle_16 : decode b_MO_takeTitle 16 = .ok (.iload_n 2, 1) ∧ 16 + 1 = 17 := ⟨by decide +kernel, rfl⟩
theorem dMO_takeTitle_17 : decode b_MO_takeTitle 17 = .ok (.iaload, 1) ∧ 17 + 1 = 18 := ⟨by decide +kernel, rfl⟩
theorem dMO_takeTitle_18 : decode b_MO_takeTitle 18 = .ok (.ifCond .eq (34), 3) ∧ 18 + 3 = 21 ∧ ((18 : Nat) : Int) + (34) = ((52 : Nat) : Int) := ⟨by decide +kernel, rfl, by decide⟩
theorem dMO_takeTitle_21 : decode b_MO_takeTitle 21 = .ok (.aload_n 0, 1) ∧ 21 + 1 = 22 := ⟨by decide +kernel, rfl⟩
theorem dMO_takeTitle_22 : decode b_MO_takeTitle 22 = .ok (.getfield 95, 3) ∧ 22 + 3 = 25 := ⟨by decide +kernel, rfl⟩
theorem dMO_takeTitle_25 : decode b_MO_takeTitle 25 = .ok (.aload_n 0, 1) ∧ 25 + 1 = 26 := ⟨by decide +kernel, rfl⟩
theorem dMO_takeTitle_26 : decode b_MO_takeTitle 26 = .ok (.getfield 165, 3) ∧ 26 + 3 = 29 := ⟨by decide +kernel, rfl⟩
theorem dMO_takeTitle_29 : decode b_MO_takeTitle 29 = .ok (.aload_n 0, 1) ∧ 29 + 1 = 30 := ⟨by decide +kernel, rfl⟩
theorem dMO_takeTitle_30 : decode b_MO_takeTitle 30 = .ok (.getfield 77, 3) ∧ 30 + 3 = 33 := ⟨by decide +kernel, rfl⟩
theorem dMO_takeTitle_33 : decode b_MO_takeTitle 33 = .ok (.iload_n 2, 1) ∧ 33 + 1 = 34 := ⟨by decide +kernel, rfl⟩
theorem dMO_takeTitle_34 : decode b_MO_takeTitle 34 = .ok (.iaload, 1) ∧ 34 + 1 = 35 := ⟨by decide +kernel, rfl⟩
theorem dMO_takeTitle_35 : decode b_MO_takeTitle 35 = .ok (.iastore, 1) ∧ 35 + 1 = 36 := ⟨by decide +kernel, rfl⟩
theorem dMO_takeTitle_36 : decode b_MO_takeTitle 36 = .ok (.aload_n 0, 1) ∧ 36 + 1 = 37 := ⟨by decide +kernel, rfl⟩
theorem dMO_takeTitle_37 : decode b_MO_takeTitle 37 = .ok (.dup, 1) ∧ 37 + 1 = 38 := ⟨by decide +kernel, rfl⟩
theorem dMO_takeTitle_38 : decode b_MO_takeTitle 38 = .ok (.getfield 165, 3) ∧ 38 + 3 = 41 := ⟨by decide +kernel, rfl⟩
theorem dMO_takeTitle_41 : decode b_MO_takeTitle 41 = .ok (.iconst 1, 1) ∧ 41 + 1 = 42 := ⟨by decide +kernel, rfl⟩
theorem dMO_takeTitle_42 : decode b_MO_takeTitle 42 = .ok (.iadd, 1) ∧ 42 + 1 = 43 := ⟨by decide +kernel, rfl⟩
theorem dMO_takeTitle_43 : decode b_MO_takeTitle 43 = .ok (.putfield 165, 3) ∧ 43 + 3 = 46 := ⟨by decide +kernel, rfl⟩
theorem dMO_takeTitle_46 : decode b_MO_takeTitle 46 = .ok (.iinc 2 (1), 3) ∧ 46 + 3 = 49 := ⟨by decide +kernel, rfl⟩
theorem dMO_takeTitle_49 : decode b_MO_takeTitle 49 = .ok (.goto (-37), 3) ∧ 49 + 3 = 52 ∧ ((49 : Nat) : Int) + (-37) = ((12 : Nat) : Int) := ⟨by decide +kernel, rfl, by decide⟩
theorem dMO_takeTitle_52 : decode b_MO_takeTitle 52 = .ok (.return_, 1) ∧ 52 + 1 = 53 := ⟨by decide +kernel, rfl⟩
theorem dMO_sizeOfTitles_0 : decode b_MO_sizeOfTitles 0 = .ok (.aload_n 0, 1) ∧ 0 + 1 = 1 := ⟨by decide +kernel, rfl⟩
theorem dMO_sizeOfTitles_1 : decode b_MO_sizeOfTitles 1 = .ok (.invokevirtual 172, 3) ∧ 1 + 3 = 4 := ⟨by decide +kernel, rfl⟩
theorem dMO_sizeOfTitles_4 : decode b_MO_sizeOfTitles 4 = .ok (.iconst 0, 1) ∧ 4 + 1 = 5 := ⟨by decide +kernel, rfl⟩
theorem dMO_sizeOfTitles_5 : decode b_MO_sizeOfTitles 5 = .ok (.istore_n 1, 1) ∧ 5 + 1 = 6 := ⟨by decide +kernel, rfl⟩
theorem dMO_sizeOfTitles_6 : decode b_MO_sizeOfTitles 6 = .ok (.iload_n 1, 1) ∧ 6 + 1 = 7 := ⟨by decide +kernel, rfl⟩
theorem dMO_sizeOfTitles_7 : decode b_MO_sizeOfTitles 7 = .ok (.bipush (11), 2) ∧ 7 + 2 = 9 := ⟨by decide +kernel, rfl⟩
theorem dMO_sizeOfTitles_9 : decode b_MO_sizeOfTitles 9 = .ok (.if_icmp .ge (36), 3) ∧ 9 + 3 = 12 ∧ ((9 : Nat) : Int) + (36) = ((45 : Nat) : Int) := ⟨by decide +kernel, rfl, by decide⟩
theorem dMO_sizeOfTitles_12 : decode b_MO_sizeOfTitles 12 = .ok (.aload_n 0, 1) ∧ 12 + 1 = 13 := ⟨by decide +kernel, rfl⟩
theorem dMO_sizeOfTitles_13 : decode b_MO_sizeOfTitles 13 = .ok (.getfield 89, 3) ∧ 13 + 3 = 16 := ⟨by decide +kernel, rfl⟩
theorem dMO_sizeOfTitles_16 : decode b_MO_sizeOfTitles 16 = .ok (.iload_n 1, 1) ∧ 16 + 1 = 17 := ⟨by decide +kernel, rfl⟩
theorem dMO_sizeOfTitles_17 : decode b_MO_sizeOfTitles 17 = .ok (.iaload, 1) ∧ 17 + 1 = 18 := ⟨by decide +kernel, rfl⟩
theorem dMO_sizeOfTitles_18 : decode b_MO_sizeOfTitles 18 = .ok (.ifCond .ne (6), 3) ∧ 18 + 3 = 21 ∧ ((18 : Nat) : Int) + (6) = ((24 : Nat) : Int) := ⟨by decide +kernel, rfl, by decide⟩
theorem dMO_sizeOfTitles_21 : decode b_MO_sizeOfTitles 21 = .ok (.goto (18), 3) ∧ 21 + 3 = 24 ∧ ((21 : Nat) : Int) + (18) = ((39 : Nat) : Int) := ⟨by decide +kernel, rfl, by decide⟩
theorem dMO_sizeOfTitles_24 : decode b_MO_sizeOfTitles 24 = .ok (.aload_n 0, 1) ∧ 24 + 1 = 25 := ⟨by decide +kernel, rfl⟩
theorem dMO_sizeOfTitles_25 : decode b_MO_sizeOfTitles 25 = .ok (.iload_n 1, 1) ∧ 25 + 1 = 26 := ⟨by decide +kernel, rfl⟩
theorem dMO_sizeOfTitles_26 : decode b_MO_sizeOfTitles 26 = .ok (.invokevirtual 179, 3) ∧ 26 + 3 = 29 := ⟨by decide +kernel, rfl⟩
theorem dMO_sizeOfTitles_29 : decode b_MO_sizeOfTitles 29 = .ok (.aload_n 0, 1) ∧ 29 + 1 = 30 := ⟨by decide +kernel, rfl⟩
theorem dMO_sizeOfTitles_30 : decode b_MO_sizeOfTitles 30 = .ok (.getfield 104, 3) ∧ 30 + 3 = 33 := ⟨by decide +kernel, rfl⟩
theorem dMO_sizeOfTitles_33 : decode b_MO_sizeOfTitles 33 = .ok (.iload_n 1, 1) ∧ 33 + 1 = 34 := ⟨by decide +kernel, rfl⟩
theorem dMO_sizeOfTitles_34 : decode b_MO_sizeOfTitles 34 = .ok (.aload_n 0, 1) ∧ 34 + 1 = 35 := ⟨by decide +kernel, rfl⟩
theorem dMO_sizeOfTitles_35 : decode b_MO_sizeOfTitles 35 = .ok (.invokevirtual 175, 3) ∧ 35 + 3 = 38 := ⟨by decide +kernel, rfl⟩
theorem dMO_sizeOfTitles_38 : decode b_MO_sizeOfTitles 38 = .ok (.iastore, 1) ∧ 38 + 1 = 39 := ⟨by decide +kernel, rfl⟩
theorem dMO_sizeOfTitles_39 : decode b_MO_sizeOfTitles 39 = .ok (.iinc 1 (1), 3) ∧ 39 + 3 = 42 := ⟨by decide +kernel, rfl⟩
theorem dMO_sizeOfTitles_42 : decode b_MO_sizeOfTitles 42 = .ok (.goto (-36), 3) ∧ 42 + 3 = 45 ∧ ((42 : Nat) : Int) + (-36) = ((6 : Nat) : Int) := ⟨by decide +kernel, rfl, by decide⟩
theorem dMO_sizeOfTitles_45 : decode b_MO_sizeOfTitles 45 = .ok (.aload_n 0, 1) ∧ 45 + 1 = 46 := ⟨by decide +kernel, rfl⟩
theorem dMO_sizeOfTitles_46 : decode b_MO_sizeOfTitles 46 = .ok (.getfield 162, 3) ∧ 46 + 3 = 49 := ⟨by decide +kernel, rfl⟩
theorem dMO_sizeOfTitles_49 : decode b_MO_sizeOfTitles 49 = .ok (.ireturn, 1) ∧ 49 + 1 = 50 := ⟨by decide +kernel, rfl⟩
theorem dMO_roundUp_0 : decode b_MO_roundUp 0 = .ok (.iload_n 0, 1) ∧ 0 + 1 = 1 := ⟨by decide +kernel, rfl⟩
theorem dMO_roundUp_1 : decode b_MO_roundUp 1 = .ok (.iload_n 1, 1) ∧ 1 + 1 = 2 := ⟨by decide +kernel, rfl⟩
theorem dMO_roundUp_2 : decode b_MO_roundUp 2 = .ok (.iadd, 1) ∧ 2 + 1 = 3 := ⟨by decide +kernel, rfl⟩
theorem dMO_roundUp_3 : decode b_MO_roundUp 3 = .ok (.iconst 1, 1) ∧ 3 + 1 = 4 := ⟨by decide +kernel, rfl⟩
theorem dMO_roundUp_4 : decode b_MO_roundUp 4 = .ok (.isub, 1) ∧ 4 + 1 = 5 := ⟨by decide +kernel, rfl⟩
theorem dMO_roundUp_5 : decode b_MO_roundUp 5 = .ok (.iload_n 1, 1) ∧ 5 + 1 = 6 := ⟨by decide +kernel, rfl⟩
theorem dMO_roundUp_6 : decode b_MO_roundUp 6 = .ok (.idiv, 1) ∧ 6 + 1 = 7 := ⟨by decide +kernel, rfl⟩
theorem dMO_roundUp_7 : decode b_MO_roundUp 7 = .ok (.iload_n 1, 1) ∧ 7 + 1 = 8 := ⟨by decide +kernel, rfl⟩
theorem dMO_roundUp_8 : decode b_MO_roundUp 8 = .ok (.imul, 1) ∧ 8 + 1 = 9 := ⟨by decide +kernel, rfl⟩
theorem dMO_roundUp_9 : decode b_MO_roundUp 9 = .ok (.ireturn, 1) ∧ 9 + 1 = 10 := ⟨by decide +kernel, rfl⟩
theorem dMO_relocationsOf_0 : decode b_MO_relocationsOf 0 = .ok (.iconst 0, 1) ∧ 0 + 1 = 1 := ⟨by decide +kernel, rfl⟩
theorem dMO_relocationsOf_1 : decode b_MO_relocationsOf 1 = .ok (.istore_n 2, 1) ∧ 1 + 1 = 2 := ⟨by decide +kernel, rfl⟩
theorem dMO_relocationsOf_2 : decode b_MO_relocationsOf 2 = .ok (.iconst 0, 1) ∧ 2 + 1 = 3 := ⟨by decide +kernel, rfl⟩
theorem dMO_relocationsOf_3 : decode b_MO_relocationsOf 3 = .ok (.istore_n 3, 1) ∧ 3 + 1 = 4 := ⟨by decide +kernel, rfl⟩
theorem dMO_relocationsOf_4 : decode b_MO_relocationsOf 4 = .ok (.iload_n 3, 1) ∧ 4 + 1 = 5 := ⟨by decide +kernel, rfl⟩
theorem dMO_relocationsOf_5 : decode b_MO_relocationsOf 5 = .ok (.aload_n 0, 1) ∧ 5 + 1 = 6 := ⟨by decide +kernel, rfl⟩
theorem dMO_relocationsOf_6 : decode b_MO_relocationsOf 6 = .ok (.getfield 64, 3) ∧ 6 + 3 = 9 := ⟨by decide +kernel, rfl⟩
theorem dMO_relocationsOf_9 : decode b_MO_relocationsOf 9 = .ok (.iconst 0, 1) ∧ 9 + 1 = 10 := ⟨by decide +kernel, rfl⟩
theorem dMO_relocationsOf_10 : decode b_MO_relocationsOf 10 = .ok (.iaload, 1) ∧ 10 + 1 = 11 := ⟨by decide +kernel, rfl⟩
theorem dMO_relocationsOf_11 : decode b_MO_relocationsOf 11 = .ok (.if_icmp .ge (27), 3) ∧ 11 + 3 = 14 ∧ ((11 : Nat) : Int) + (27) = ((38 : Nat) : Int) := ⟨by decide +kernel, rfl, by decide⟩
theorem dMO_relocationsOf_14 : decode b_MO_relocationsOf 14 = .ok (.iload_n 2, 1) ∧ 14 + 1 = 15 := ⟨by decide +kernel, rfl⟩
theorem dMO_relocationsOf_15 : decode b_MO_relocationsOf 15 = .ok (.aload_n 0, 1) ∧ 15 + 1 = 16 := ⟨by decide +kernel, rfl⟩
theorem dMO_relocationsOf_16 : decode b_MO_relocationsOf 16 = .ok (.getfield 49, 3) ∧ 16 + 3 = 19 := ⟨by decide +kernel, rfl⟩
theorem dMO_relocationsOf_19 : decode b_MO_relocationsOf 19 = .ok (.iload_n 3, 1) ∧ 19 + 1 = 20 := ⟨by decide +kernel, rfl⟩
theorem dMO_relocationsOf_20 : decode b_MO_relocationsOf 20 = .ok (.iaload, 1) ∧ 20 + 1 = 21 := ⟨by decide +kernel, rfl⟩
theorem dMO_relocationsOf_21 : decode b_MO_relocationsOf 21 = .ok (.iload_n 1, 1) ∧ 21 + 1 = 22 := ⟨by decide +kernel, rfl⟩
theorem dMO_relocationsOf_22 : decode b_MO_relocationsOf 22 = .ok (.if_icmp .ne (7), 3) ∧ 22 + 3 = 25 ∧ ((22 : Nat) : Int) + (7) = ((29 : Nat) : Int) := ⟨by decide +kernel, rfl, by decide⟩
theorem dMO_relocationsOf_25 : decode b_MO_relocationsOf 25 = .ok (.iconst 1, 1) ∧ 25 + 1 = 26 := ⟨by decide +kernel, rfl⟩
theorem dMO_relocationsOf_26 : decode b_MO_relocationsOf 26 = .ok (.goto (4), 3) ∧ 26 + 3 = 29 ∧ ((26 : Nat) : Int) + (4) = ((30 : Nat) : Int) := ⟨by decide +kernel, rfl, by decide⟩
theorem dMO_relocationsOf_29 : decode b_MO_relocationsOf 29 = .ok (.iconst 0, 1) ∧ 29 + 1 = 30 := ⟨by decide +kernel, rfl⟩
theorem dMO_relocationsOf_30 : decode b_MO_relocationsOf 30 = .ok (.iadd, 1) ∧ 30 + 1 = 31 := ⟨by decide +kernel, rfl⟩
theorem dMO_relocationsOf_31 : decode b_MO_relocationsOf 31 = .ok (.istore_n 2, 1) ∧ 31 + 1 = 32 := ⟨by decide +kernel, rfl⟩
theorem dMO_relocationsOf_32 : decode b_MO_relocationsOf 32 = .ok (.iinc 3 (1), 3) ∧ 32 + 3 = 35 := ⟨by decide +kernel, rfl⟩
theorem dMO_relocationsOf_35 : decode b_MO_relocationsOf 35 = .ok (.goto (-31), 3) ∧ 35 + 3 = 38 ∧ ((35 : Nat) : Int) + (-31) = ((4 : Nat) : Int) := ⟨by decide +kernel, rfl, by decide⟩
theorem dMO_relocationsOf_38 : decode b_MO_relocationsOf 38 = .ok (.iload_n 2, 1) ∧ 38 + 1 = 39 := ⟨by decide +kernel, rfl⟩
theorem dMO_relocationsOf_39 : decode b_MO_relocationsOf 39 = .ok (.ireturn, 1) ∧ 39 + 1 = 40 := ⟨by decide +kernel, rfl⟩
