theorem dWR_gatherNames_0 : decode b_WR_gatherNames 0 = .ok (.aload_n 0, 1) ∧ 0 + 1 = 1 := ⟨by decide +kernel, rfl⟩
theorem dWR_gatherNames_1 : decode b_WR_gatherNames 1 = .ok (.getfield 12, 3) ∧ 1 + 3 = 4 := ⟨by decide +kernel, rfl⟩
theorem dWR_gatherNames_4 : decode b_WR_gatherNames 4 = .ok (.invokevirtual 118, 3) ∧ 4 + 3 = 7 := ⟨by decide +kernel, rfl⟩
theorem dWR_gatherNames_7 : decode b_WR_gatherNames 7 = .ok (.iconst 0, 1) ∧ 7 + 1 = 8 := ⟨by decide +kernel, rfl⟩
theorem dWR_gatherNames_8 : decode b_WR_gatherNames 8 = .ok (.istore_n 1, 1) ∧ 8 + 1 = 9 := ⟨by decide +kernel, rfl⟩
theorem dWR_gatherNames_9 : decode b_WR_gatherNames 9 = .ok (.iload_n 1, 1) ∧ 9 + 1 = 10 := ⟨by decide +kernel, rfl⟩
theorem dWR_gatherNames_10 : decode b_WR_gatherNames 10 = .ok (.aload_n 0, 1) ∧ 10 + 1 = 11 := ⟨by decide +kernel, rfl⟩
theorem dWR_gatherNames_11 : decode b_WR_gatherNames 11 = .ok (.getfield 47, 3) ∧ 11 + 3 = 14 := ⟨by decide +kernel, rfl⟩
theorem dWR_gatherNames_14 : decode b_WR_gatherNames 14 = .ok (.getfield 104, 3) ∧ 14 + 3 = 17 := ⟨by decide +kernel, rfl⟩
theorem dWR_gatherNames_17 : decode b_WR_gatherNames 17 = .ok (.if_icmp .ge (49), 3) ∧ 17 + 3 = 20 ∧ ((17 : Nat) : Int) + (49) = ((66 : Nat) : Int) := ⟨by decide +kernel, rfl, by decide⟩
theorem dWR_gatherNames_20 : decode b_WR_gatherNames 20 = .ok (.aload_n 0, 1) ∧ 20 + 1 = 21 := ⟨by decide +kernel, rfl⟩
theorem dWR_gatherNames_21 : decode b_WR_gatherNames 21 = .ok (.getfield 38, 3) ∧ 21 + 3 = 24 := ⟨by decide +kernel, rfl⟩
theorem dWR_gatherNames_24 : decode b_WR_gatherNames 24 = .ok (.iload_n 1, 1) ∧ 24 + 1 = 25 := ⟨by decide +kernel, rfl⟩
theorem dWR_gatherNames_25 : decode b_WR_gatherNames 25 = .ok (.iaload, 1) ∧ 25 + 1 = 26 := ⟨by decide +kernel, rfl⟩
theorem dWR_gatherNames_26 : decode b_WR_gatherNames 26 = .ok (.istore_n 2, 1) ∧ 26 + 1 = 27 := ⟨by decide +kernel, rfl⟩
theorem dWR_gatherNames_27 : decode b_WR_gatherNames 27 = .ok (.aload_n 0, 1) ∧ 27 + 1 = 28 := ⟨by decide +kernel, rfl⟩
theorem dWR_gatherNames_28 : decode b_WR_gatherNames 28 = .ok (.getfield 44, 3) ∧ 28 + 3 = 31 := ⟨by decide +kernel, rfl⟩
theorem dWR_gatherNames_31 : decode b_WR_gatherNames 31 = .ok (.iload_n 1, 1) ∧ 31 + 1 = 32 := ⟨by decide +kernel, rfl⟩
theorem dWR_gatherNames_32 : decode b_WR_gatherNames 32 = .ok (.aload_n 0, 1) ∧ 32 + 1 = 33 := ⟨by decide +kernel, rfl⟩
theorem dWR_gatherNames_33 : decode b_WR_gatherNames 33 = .ok (.getfield 12, 3) ∧ 33 + 3 = 36 := ⟨by decide +kernel, rfl⟩
theorem dWR_gatherNames_36 : decode b_WR_gatherNames 36 = .ok (.aload_n 0, 1) ∧ 36 + 1 = 37 := ⟨by decide +kernel, rfl⟩
theorem dWR_gatherNames_37 : decode b_WR_gatherNames 37 = .ok (.getfield 47, 3) ∧ 37 + 3 = 40 := ⟨by decide +kernel, rfl⟩
theorem dWR_gatherNames_40 : decode b_WR_gatherNames 40 = .ok (.getfield 121, 3) ∧ 40 + 3 = 43 := ⟨by decide +kernel, rfl⟩
theorem dWR_gatherNames_43 : decode b_WR_gatherNames 43 = .ok (.iload_n 2, 1) ∧ 43 + 1 = 44 := ⟨by decide +kernel, rfl⟩
theorem dWR_gatherNames_44 : decode b_WR_gatherNames 44 = .ok (.bipush (16), 2) ∧ 44 + 2 = 46 := ⟨by decide +kernel, rfl⟩
theorem dWR_gatherNames_46 : decode b_WR_gatherNames 46 = .ok (.imul, 1) ∧ 46 + 1 = 47 := ⟨by decide +kernel, rfl⟩
theorem dWR_gatherNames_47 : decode b_WR_gatherNames 47 = .ok (.aload_n 0, 1) ∧ 47 + 1 = 48 := ⟨by decide +kernel, rfl⟩
theorem dWR_gatherNames_48 : decode b_WR_gatherNames 48 = .ok (.getfield 47, 3) ∧ 48 + 3 = 51 := ⟨by decide +kernel, rfl⟩
theorem dWR_gatherNames_51 : decode b_WR_gatherNames 51 = .ok (.iload_n 2, 1) ∧ 51 + 1 = 52 := ⟨by decide +kernel, rfl⟩
theorem dWR_gatherNames_52 : decode b_WR_gatherNames 52 = .ok (.iconst 5, 1) ∧ 52 + 1 = 53 := ⟨by decide +kernel, rfl⟩
theorem dWR_gatherNames_53 : decode b_WR_gatherNames 53 = .ok (.invokevirtual 107, 3) ∧ 53 + 3 = 56 := ⟨by decide +kernel, rfl⟩
theorem dWR_gatherNames_56 : decode b_WR_gatherNames 56 = .ok (.invokevirtual 123, 3) ∧ 56 + 3 = 59 := ⟨by decide +kernel, rfl⟩
theorem dWR_gatherNames_59 : decode b_WR_gatherNames 59 = .ok (.iastore, 1) ∧ 59 + 1 = 60 := ⟨by decide +kernel, rfl⟩
theorem dWR_gatherNames_60 : decode b_WR_gatherNames 60 = .ok (.iinc 1 (1), 3) ∧ 60 + 3 = 63 := ⟨by decide +kernel, rfl⟩
theorem dWR_gatherNames_63 : decode b_WR_gatherNames 63 = .ok (.goto (-54), 3) ∧ 63 + 3 = 66 ∧ ((63 : Nat) : Int) + (-54) = ((9 : Nat) : Int) := ⟨by decide +kernel, rfl, by decide⟩
theorem dWR_gatherNames_66 : decode b_WR_gatherNames 66 = .ok (.return_, 1) ∧ 66 + 1 = 67 := ⟨by decide +kernel, rfl⟩
theorem dCT_relocationsOf_0 : decode b_CT_relocationsOf 0 = .ok (.iconst 0, 1) ∧ 0 + 1 = 1 := ⟨by decide +kernel, rfl⟩
theorem dCT_relocationsOf_1 : decode b_CT_relocationsOf 1 = .ok (.istore_n 2, 1) ∧ 1 + 1 = 2 := ⟨by decide +kernel, rfl⟩
theorem dCT_relocationsOf_2 : decode b_CT_relocationsOf 2 = .ok (.iconst 0, 1) ∧ 2 + 1 = 3 := ⟨by decide +kernel, rfl⟩
theorem dCT_relocationsOf_3 : decode b_CT_relocationsOf 3 = .ok (.istore_n 3, 1) ∧ 3 + 1 = 4 := ⟨by decide +kernel, rfl⟩
theorem dCT_relocationsOf_4 : decode b_CT_relocationsOf 4 = .ok (.iload_n 3, 1) ∧ 4 + 1 = 5 := ⟨by decide +kernel, rfl⟩
theorem dCT_relocationsOf_5 : decode b_CT_relocationsOf 5 = .ok (.aload_n 0, 1) ∧ 5 + 1 = 6 := ⟨by decide +kernel, rfl⟩
theorem dCT_relocationsOf_6 : decode b_CT_relocationsOf 6 = .ok (.getfield 47, 3) ∧ 6 + 3 = 9 := ⟨by decide +kernel, rfl⟩
theorem dCT_relocationsOf_9 : decode b_CT_relocationsOf 9 = .ok (.if_icmp .ge (22), 3) ∧ 9 + 3 = 12 ∧ ((9 : Nat) : Int) + (22) = ((31 : Nat) : Int) := ⟨by decide +kernel, rfl, by decide⟩
theorem dCT_relocationsOf_12 : decode b_CT_relocationsOf 12 = .ok (.aload_n 0, 1) ∧ 12 + 1 = 13 := ⟨by decide +kernel, rfl⟩
theorem dCT_relocationsOf_13 : decode b_CT_relocationsOf 13 = .ok (.iload_n 3, 1) ∧ 13 + 1 = 14 := ⟨by decide +kernel, rfl⟩
theorem dCT_relocationsOf_14 : decode b_CT_relocationsOf 14 = .ok (.iconst 0, 1) ∧ 14 + 1 = 15 := ⟨by decide +kernel, rfl⟩
theorem dCT_relocationsOf_15 : decode b_CT_relocationsOf 15 = .ok (.invokevirtual 78, 3) ∧ 15 + 3 = 18 := ⟨by decide +kernel, rfl⟩
theorem dCT_relocationsOf_18 : decode b_CT_relocationsOf 18 = .ok (.iload_n 1, 1) ∧ 18 + 1 = 19 := ⟨by decide +kernel, rfl⟩
theorem dCT_relocationsOf_19 : decode b_CT_relocationsOf 19 = .ok (.if_icmp .ne (6), 3) ∧ 19 + 3 = 22 ∧ ((19 : Nat) : Int) + (6) = ((25 : Nat) : Int) := ⟨by decide +kernel, rfl, by decide⟩
theorem dCT_relocationsOf_22 : decode b_CT_relocationsOf 22 = .ok (.iinc 2 (1), 3) ∧ 22 + 3 = 25 := ⟨by decide +kernel, rfl⟩
theorem dCT_relocationsOf_25 : decode b_CT_relocationsOf 25 = .ok (.iinc 3 (1), 3) ∧ 25 + 3 = 28 := ⟨by decide +kernel, rfl⟩
theorem dCT_relocationsOf_28 : decode b_CT_relocationsOf 28 = .ok (.goto (-24), 3) ∧ 28 + 3 = 31 ∧ ((28 : Nat) : Int) + (-24) = ((4 : Nat) : Int) := ⟨by decide +kernel, rfl, by decide⟩
theorem dCT_relocationsOf_31 : decode b_CT_relocationsOf 31 = .ok (.iload_n 2, 1) ∧ 31 + 1 = 32 := ⟨by decide +kernel, rfl⟩
theorem dCT_relocationsOf_32 : decode b_CT_relocationsOf 32 = .ok (.ireturn, 1) ∧ 32 + 1 = 33 := ⟨by decide +kernel, rfl⟩
theorem dWR_measureParts_0 : decode b_WR_measureParts 0 = .ok (.iconst 0, 1) ∧ 0 + 1 = 1 := ⟨by decide +kernel, rfl⟩
theorem dWR_measureParts_1 : decode b_WR_measureParts 1 = .ok (.istore_n 1, 1) ∧ 1 + 1 = 2 := ⟨by decide +kernel, rfl⟩
theorem dWR_measureParts_2 : decode b_WR_measureParts 2 = .ok (.iload_n 1, 1) ∧ 2 + 1 = 3 := ⟨by decide +kernel, rfl⟩
theorem dWR_measureParts_3 : decode b_WR_measureParts 3 = .ok (.iconst 3, 1) ∧ 3 + 1 = 4 := ⟨by decide +kernel, rfl⟩
theorem dWR_measureParts_4 : decode b_WR_measureParts 4 = .ok (.if_icmp .gt (24), 3) ∧ 4 + 3 = 7 ∧ ((4 : Nat) : Int) + (24) = ((28 : Nat) : Int) := ⟨by decide +kernel, rfl, by decide⟩
theorem dWR_measureParts_7 : decode b_WR_measureParts 7 = .ok (.aload_n 0, 1) ∧ 7 + 1 = 8 := ⟨by decide +kernel, rfl⟩
theorem dWR_measureParts_8 : decode b_WR_measureParts 8 = .ok (.getfield 35, 3) ∧ 8 + 3 = 11 := ⟨by decide +kernel, rfl⟩
theorem dWR_measureParts_11 : decode b_WR_measureParts 11 = .ok (.iload_n 1, 1) ∧ 11 + 1 = 12 := ⟨by decide +kernel, rfl⟩
theorem dWR_measureParts_12 : decode b_WR_measureParts 12 = .ok (.aload_n 0, 1) ∧ 12 + 1 = 13 := ⟨by decide +kernel, rfl⟩
theorem dWR_measureParts_13 : decode b_WR_measureParts 13 = .ok (.getfield 47, 3) ∧ 13 + 3 = 16 := ⟨by decide +kernel, rfl⟩
theorem dWR_measureParts_16 : decode b_WR_measureParts 16 = .ok (.getfield 127, 3) ∧ 16 + 3 = 19 := ⟨by decide +kernel, rfl⟩
theorem dWR_measureParts_19 : decode b_WR_measureParts 19 = .ok (.iload_n 1, 1) ∧ 19 + 1 = 20 := ⟨by decide +kernel, rfl⟩
theorem dWR_measureParts_20 : decode b_WR_measureParts 20 = .ok (.iaload, 1) ∧ 20 + 1 = 21 := ⟨by decide +kernel, rfl⟩
theorem dWR_measureParts_21 : decode b_WR_measureParts 21 = .ok (.iastore, 1) ∧ 21 + 1 = 22 := ⟨by decide +kernel, rfl⟩
theorem dWR_measureParts_22 : decode b_WR_measureParts 22 = .ok (.iinc 1 (1), 3) ∧ 22 + 3 = 25 := ⟨by decide +kernel, rfl⟩
theorem dWR_measureParts_25 : decode b_WR_measureParts 25 = .ok (.goto (-23), 3) ∧ 25 + 3 = 28 ∧ ((25 : Nat) : Int) + (-23) = ((2 : Nat) : Int) := ⟨by decide +kernel, rfl, by decide⟩
theorem dWR_measureParts_28 : decode b_WR_measureParts 28 = .ok (.aload_n 0, 1) ∧ 28 + 1 = 29 := ⟨by decide +kernel, rfl⟩
theorem dWR_measureParts_29 : decode b_WR_measureParts 29 = .ok (.getfield 35, 3) ∧ 29 + 3 = 32 := ⟨by decide +kernel, rfl⟩
theorem dWR_measureParts_32 : decode b_WR_measureParts 32 = .ok (.iconst 4, 1) ∧ 32 + 1 = 33 := ⟨by decide +kernel, rfl⟩
theorem dWR_measureParts_33 : decode b_WR_measureParts 33 = .ok (.iconst 2, 1) ∧ 33 + 1 = 34 := ⟨by decide +kernel, rfl⟩
theorem dWR_measureParts_34 : decode b_WR_measureParts 34 = .ok (.aload_n 0, 1) ∧ 34 + 1 = 35 := ⟨by decide +kernel, rfl⟩
theorem dWR_measureParts_35 : decode b_WR_measureParts 35 = .ok (.getfield 47, 3) ∧ 35 + 3 = 38 := ⟨by decide +kernel, rfl⟩
theorem dWR_measureParts_38 : decode b_WR_measureParts 38 = .ok (.getfield 130, 3) ∧ 38 + 3 = 41 := ⟨by decide +kernel, rfl⟩
theorem dWR_measureParts_41 : decode b_WR_measureParts 41 = .ok (.imul, 1) ∧ 41 + 1 = 42 := ⟨by decide +kernel, rfl⟩
theorem dWR_measureParts_42 : decode b_WR_measureParts 42 = .ok (.iastore, 1) ∧ 42 + 1 = 43 := ⟨by decide +kernel, rfl⟩
theorem dWR_measureParts_43 : decode b_WR_measureParts 43 = .ok (.iconst 0, 1) ∧ 43 + 1 = 44 := ⟨by decide +kernel, rfl⟩
theorem dWR_measureParts_44 : decode b_WR_measureParts 44 = .ok (.istore_n 1, 1) ∧ 44 + 1 = 45 := ⟨by decide +kernel, rfl⟩
theorem dWR_measureParts_45 : decode b_WR_measureParts 45 = .ok (.iload_n 1, 1) ∧ 45 + 1 = 46 := ⟨by decide +kernel, rfl⟩
theorem dWR_measureParts_46 : decode b_WR_measureParts 46 = .ok (.iconst 2, 1) ∧ 46 + 1 = 47 := ⟨by decide +kernel, rfl⟩
theorem dWR_measureParts_47 : decode b_WR_measureParts 47 = .ok (.if_icmp .gt (28), 3) ∧ 47 + 3 = 50 ∧ ((47 : Nat) : Int) + (28) = ((75 : Nat) : Int) := ⟨by decide +kernel, rfl, by decide⟩
theorem dWR_measureParts_50 : decode b_WR_measureParts 50 = .ok (.aload_n 0, 1) ∧ 50 + 1 = 51 := ⟨by decide +kernel, rfl⟩
theorem dWR_measureParts_51 : decode b_WR_measureParts 51 = .ok (.getfield 35, 3) ∧ 51 + 3 = 54 := ⟨by decide +kernel, rfl⟩
theorem dWR_measureParts_54 : decode b_WR_measureParts 54 = .ok (.iconst 5, 1) ∧ 54 + 1 = 55 := ⟨by decide +kernel, rfl⟩
theorem dWR_measureParts_55 : decode b_WR_measureParts 55 = .ok (.iload_n 1, 1) ∧ 55 + 1 = 56 := ⟨by decide +kernel, rfl⟩
theorem dWR_measureParts_56 : decode b_WR_measureParts 56 = .ok (.iadd, 1) ∧ 56 + 1 = 57 := ⟨by decide +kernel, rfl⟩
theorem dWR_measureParts_57 : decode b_WR_measureParts 57 = .ok (.bipush (12), 2) ∧ 57 + 2 = 59 := ⟨by decide +kernel, rfl⟩
theorem dWR_measureParts_59 : decode b_WR_measureParts 59 = .ok (.aload_n 0, 1) ∧ 59 + 1 = 60 := ⟨by decide +kernel, rfl⟩
theorem dWR_measureParts_60 : decode b_WR_measureParts 60 = .ok (.getfield 47, 3) ∧ 60 + 3 = 63 := ⟨by decide +kernel, rfl⟩
theorem dWR_measureParts_63 : decode b_WR_measureParts 63 = .ok (.iload_n 1, 1) ∧ 63 + 1 = 64 := ⟨by decide +kernel, rfl⟩
theorem dWR_measureParts_64 : decode b_WR_measureParts 64 = .ok (.invokevirtual 133, 3) ∧ 64 + 3 = 67 := ⟨by decide +kernel, rfl⟩
theorem dWR_measureParts_67 : decode b_WR_measureParts 67 = .ok (.imul, 1) ∧ 67 + 1 = 68 := ⟨by decide +kernel, rfl⟩
theorem dWR_measureParts_68 : decode b_WR_measureParts 68 = .ok (.iastore, 1) ∧ 68 + 1 = 69 := ⟨by decide +kernel, rfl⟩
theorem dWR_measureParts_69 : decode b_WR_measureParts 69 = .ok (.iinc 1 (1), 3) ∧ 69 + 3 = 72 := ⟨by decide +kernel, rfl⟩
theorem dWR_measureParts_72 : decode b_WR_measureParts 72 = .ok (.goto (-27), 3) ∧ 72 + 3 = 75 ∧ ((72 : Nat) : Int) + (-27) = ((45 : Nat) : Int) := ⟨by decide +kernel, rfl, by decide⟩
theorem dWR_measureParts_75 : decode b_WR_measureParts 75 = .ok (.aload_n 0, 1) ∧ 75 + 1 = 76 := ⟨by decide +kernel, rfl⟩
theorem dWR_measureParts_76 : decode b_WR_measureParts 76 = .ok (.getfield 35, 3) ∧ 76 + 3 = 79 := ⟨by decide +kernel, rfl⟩
theorem dWR_measureParts_79 : decode b_WR_measureParts 79 = .ok (.bipush (8), 2) ∧ 79 + 2 = 81 := ⟨by decide +kernel, rfl⟩
theorem dWR_measureParts_81 : decode b_WR_measureParts 81 = .ok (.bipush (16), 2) ∧ 81 + 2 = 83 := ⟨by decide +kernel, rfl⟩
theorem dWR_measureParts_83 : decode b_WR_measureParts 83 = .ok (.iconst 1, 1) ∧ 83 + 1 = 84 := ⟨by decide +kernel, rfl⟩
theorem dWR_measureParts_84 : decode b_WR_measureParts 84 = .ok (.aload_n 0, 1) ∧ 84 + 1 = 85 := ⟨by decide +kernel, rfl⟩
theorem dWR_measureParts_85 : decode b_WR_measureParts 85 = .ok (.getfield 47, 3) ∧ 85 + 3 = 88 := ⟨by decide +kernel, rfl⟩
theorem dWR_measureParts_88 : decode b_WR_measureParts 88 = .ok (.getfield 104, 3) ∧ 88 + 3 = 91 := ⟨by decide +kernel, rfl⟩
theorem dWR_measureParts_91 : decode b_WR_measureParts 91 = .ok (.iadd, 1) ∧ 91 + 1 = 92 := ⟨by decide +kernel, rfl⟩
theorem dWR_measureParts_92 : decode b_WR_measureParts 92 = .ok (.imul, 1) ∧ 92 + 1 = 93 := ⟨by decide +kernel, rfl⟩
theorem dWR_measureParts_93 : decode b_WR_measureParts 93 = .ok (.iastore, 1) ∧ 93 + 1 = 94 := ⟨by decide +kernel, rfl⟩
theorem dWR_measureParts_94 : decode b_WR_measureParts 94 = .ok (.aload_n 0, 1) ∧ 94 + 1 = 95 := ⟨by decide +kernel, rfl⟩
theorem dWR_measureParts_95 : decode b_WR_measureParts 95 = .ok (.getfield 35, 3) ∧ 95 + 3 = 98 := ⟨by decide +kernel, rfl⟩
theorem dWR_measureParts_98 : decode b_WR_measureParts 98 = .ok (.bipush (9), 2) ∧ 98 + 2 = 100 := ⟨by decide +kernel, rfl⟩
theorem dWR_measureParts_100 : decode b_WR_measureParts 100 = .ok (.aload_n 0, 1) ∧ 100 + 1 = 101 := ⟨by decide +kernel, rfl⟩
theorem dWR_measureParts_101 : decode b_WR_measureParts 101 = .ok (.getfield 12, 3) ∧ 101 + 3 = 104 := ⟨by decide +kernel, rfl⟩
theorem dWR_measureParts_104 : decode b_WR_measureParts 104 = .ok (.getfield 137, 3) ∧ 104 + 3 = 107 := ⟨by decide +kernel, rfl⟩
theorem dWR_measureParts_107 : decode b_WR_measureParts 107 = .ok (.iastore, 1) ∧ 107 + 1 = 108 := ⟨by decide +kernel, rfl⟩
theorem dWR_measureParts_108 : decode b_WR_measureParts 108 = .ok (.return_, 1) ∧ 108 + 1 = 109 := ⟨by decide +kernel, rfl⟩
theorem dWR_isThere_0 : decode b_WR_isThere 0 = .ok (.iload_n 1, 1) ∧ 0 + 1 = 1 := ⟨by decide +kernel, rfl⟩
theorem dWR_isThere_1 : decode b_WR_isThere 1 = .ok (.iconst 3, 1) ∧ 1 + 1 = 2 := ⟨by decide +kernel, rfl⟩
theorem dWR_isThere_2 : decode b_WR_isThere 2 = .ok (.if_icmp .le (18), 3) ∧ 2 + 3 = 5 ∧ ((2 : Nat) : Int) + (18) = ((20 : Nat) : Int) := ⟨by decide +kernel, rfl, by decide⟩
theorem dWR_isThere_5 : decode b_WR_isThere 5 = .ok (.iload_n 1, 1) ∧ 5 + 1 = 6 := ⟨by decide +kernel, rfl⟩
theorem dWR_isThere_6 : decode b_WR_isThere 6 = .ok (.bipush (8), 2) ∧ 6 + 2 = 8 := ⟨by decide +kernel, rfl⟩
theorem dWR_isThere_8 : decode b_WR_isThere 8 = .ok (.if_icmp .ge (12), 3) ∧ 8 + 3 = 11 ∧ ((8 : Nat) : Int) + (12) = ((20 : Nat) : Int) := ⟨by decide +kernel, rfl, by decide⟩
theorem dWR_isThere_11 : decode b_WR_isThere 11 = .ok (.aload_n 0, 1) ∧ 11 + 1 = 12 := ⟨by decide +kernel, rfl⟩
theorem dWR_isThere_12 : decode b_WR_isThere 12 = .ok (.getfield 35, 3) ∧ 12 + 3 = 15 := ⟨by decide +kernel, rfl⟩
theorem dWR_isThere_15 : decode b_WR_isThere 15 = .ok (.iload_n 1, 1) ∧ 15 + 1 = 16 := ⟨by decide +kernel, rfl⟩
theorem dWR_isThere_16 : decode b_WR_isThere 16 = .ok (.iaload, 1) ∧ 16 + 1 = 17 := ⟨by decide +kernel, rfl⟩
theorem dWR_isThere_17 : decode b_WR_isThere 17 = .ok (.ifCond .le (7), 3) ∧ 17 + 3 = 20 ∧ ((17 : Nat) : Int) + (7) = ((24 : Nat) : Int) := ⟨by decide +kernel, rfl, by decide⟩
theorem dWR_isThere_20 : decode b_WR_isThere 20 = .ok (.iconst 1, 1) ∧ 20 + 1 = 21 := ⟨by decide +kernel, rfl⟩
theorem dWR_isThere_21 : decode b_WR_isThere 21 = .ok (.goto (4), 3) ∧ 21 + 3 = 24 ∧ ((21 : Nat) : Int) + (4) = ((25 : Nat) : Int) := ⟨by decide +kernel, rfl, by decide⟩
theorem dWR_isThere_24 : decode b_WR_isThere 24 = .ok (.iconst 0, 1) ∧ 24 + 1 = 25 := ⟨by decide +kernel, rfl⟩
theorem dWR_isThere_25 : decode b_WR_isThere 25 = .ok (.ireturn, 1) ∧ 25 + 1 = 26 := ⟨by decide +kernel, rfl⟩
theorem dOF_labelOf_0 : decode b_OF_labelOf 0 = .ok (.iload_n 0, 1) ∧ 0 + 1 = 1 := ⟨by decide +kernel, rfl⟩
theorem dOF_labelOf_1 : decode b_OF_labelOf 1 = .ok (.tableswitch (85) (0) (9) #[55, 58, 61, 64, 67, 70, 73, 76, 79, 82], 55) ∧ True := ⟨by decide +kernel, trivial⟩
theorem dOF_labelOf_56 : decode b_OF_labelOf 56 = .ok (.ldc 203, 2) ∧ 56 + 2 = 58 := ⟨by decide +kernel, rfl⟩
theorem dOF_labelOf_58 : decode b_OF_labelOf 58 = .ok (.areturn, 1) ∧ 58 + 1 = 59 := ⟨by decide +kernel, rfl⟩
theorem dOF_labelOf_59 : decode b_OF_labelOf 59 = .ok (.ldc 205, 2) ∧ 59 + 2 = 61 := ⟨by decide +kernel, rfl⟩
theorem dOF_labelOf_61 : decode b_OF_labelOf 61 = .ok (.areturn, 1) ∧ 61 + 1 = 62 := ⟨by decide +kernel, rfl⟩
theorem dOF_labelOf_62 : decode b_OF_labelOf 62 = .ok (.ldc 207, 2) ∧ 62 + 2 = 64 := ⟨by decide +kernel, rfl⟩
theorem dOF_labelOf_64 : decode b_OF_labelOf 64 = .ok (.areturn, 1) ∧ 64 + 1 = 65 := ⟨by decide +kernel, rfl⟩
theorem dOF_labelOf_65 : decode b_OF_labelOf 65 = .ok (.ldc 209, 2) ∧ 65 + 2 = 67 := ⟨by decide +kernel, rfl⟩
theorem dOF_labelOf_67 : decode b_OF_labelOf 67 = .ok (.areturn, 1) ∧ 67 + 1 = 68 := ⟨by decide +kernel, rfl⟩
theorem dOF_labelOf_68 : decode b_OF_labelOf 68 = .ok (.ldc 211, 2) ∧ 68 + 2 = 70 := ⟨by decide +kernel, rfl⟩
theorem dOF_labelOf_70 : decode b_OF_labelOf 70 = .ok (.areturn, 1) ∧ 70 + 1 = 71 := ⟨by decide +kernel, rfl⟩
theorem dOF_labelOf_71 : decode b_OF_labelOf 71 = .ok (.ldc 213, 2) ∧ 71 + 2 = 73 := ⟨by decide +kernel, rfl⟩
theorem dOF_labelOf_73 : decode b_OF_labelOf 73 = .ok (.areturn, 1) ∧ 73 + 1 = 74 := ⟨by decide +kernel, rfl⟩
theorem dOF_labelOf_74 : decode b_OF_labelOf 74 = .ok (.ldc 215, 2) ∧ 74 + 2 = 76 := ⟨by decide +kernel, rfl⟩
theorem dOF_labelOf_76 : decode b_OF_labelOf 76 = .ok (.areturn, 1) ∧ 76 + 1 = 77 := ⟨by decide +kernel, rfl⟩
theorem dOF_labelOf_77 : decode b_OF_labelOf 77 = .ok (.ldc 217, 2) ∧ 77 + 2 = 79 := ⟨by decide +kernel, rfl⟩
theorem dOF_labelOf_79 : decode b_OF_labelOf 79 = .ok (.areturn, 1) ∧ 79 + 1 = 80 := ⟨by decide +kernel, rfl⟩
theorem dOF_labelOf_80 : decode b_OF_labelOf 80 = .ok (.ldc 219, 2) ∧ 80 + 2 = 82 := ⟨by decide +kernel, rfl⟩
theorem dOF_labelOf_82 : decode b_OF_labelOf 82 = .ok (.areturn, 1) ∧ 82 + 1 = 83 := ⟨by decide +kernel, rfl⟩
theorem dOF_labelOf_83 : decode b_OF_labelOf 83 = .ok (.ldc 221, 2) ∧ 83 + 2 = 85 := ⟨by decide +kernel, rfl⟩
theorem dOF_labelOf_85 : decode b_OF_labelOf 85 = .ok (.areturn, 1) ∧ 85 + 1 = 86 := ⟨by decide +kernel, rfl⟩
theorem dOF_labelOf_86 : decode b_OF_labelOf 86 = .ok (.ldc 223, 2) ∧ 86 + 2 = 88 := ⟨by decide +kernel, rfl⟩
theorem dOF_labelOf_88 : decode b_OF_labelOf 88 = .ok (.areturn, 1) ∧ 88 + 1 = 89 := ⟨by decide +kernel, rfl⟩
theorem dWR_spell_0 : decode b_WR_spell 0 = .ok (.iload_n 1, 1) ∧ 0 + 1 = 1 := ⟨by decide +kernel, rfl⟩
theorem dWR_spell_1 : decode b_WR_spell 1 = .ok (.invokestatic 147, 3) ∧ 1 + 3 = 4 := ⟨by decide +kernel, rfl⟩
theorem dWR_spell_4 : decode b_WR_spell 4 = .ok (.astore_n 2, 1) ∧ 4 + 1 = 5 := ⟨by decide +kernel, rfl⟩
theorem dWR_spell_5 : decode b_WR_spell 5 = .ok (.aload_n 2, 1) ∧ 5 + 1 = 6 := ⟨by decide +kernel, rfl⟩
theorem dWR_spell_6 : decode b_WR_spell 6 = .ok (.invokevirtual 151, 3) ∧ 6 + 3 = 9 := ⟨by decide +kernel, rfl⟩
theorem dWR_spell_9 : decode b_WR_spell 9 = .ok (.bipush (16), 2) ∧ 9 + 2 = 11 := ⟨by decide +kernel, rfl⟩
theorem dWR_spell_11 : decode b_WR_spell 11 = .ok (.invokestatic 156, 3) ∧ 11 + 3 = 14 := ⟨by decide +kernel, rfl⟩
theorem dWR_spell_14 : decode b_WR_spell 14 = .ok (.istore_n 3, 1) ∧ 14 + 1 = 15 := ⟨by decide +kernel, rfl⟩
theorem dWR_spell_15 : decode b_WR_spell 15 = .ok (.iconst 0, 1) ∧ 15 + 1 = 16 := ⟨by decide +kernel, rfl⟩
theorem dWR_spell_16 : decode b_WR_spell 16 = .ok (.istore 4, 2) ∧ 16 + 2 = 18 := ⟨by decide +kernel, rfl⟩
theorem dWR_spell_18 : decode b_WR_spell 18 = .ok (.iload 4, 2) ∧ 18 + 2 = 20 := ⟨by decide +kernel, rfl⟩
theorem dWR_spell_20 : decode b_WR_spell 20 = .ok (.iload_n 3, 1) ∧ 20 + 1 = 21 := ⟨by decide +kernel, rfl⟩
theorem dWR_spell_21 : decode b_WR_spell 21 = .ok (.if_icmp .ge (23), 3) ∧ 21 + 3 = 24 ∧ ((21 : Nat) : Int) + (23) = ((44 : Nat) : Int) := ⟨by decide +kernel, rfl, by decide⟩
theorem dWR_spell_24 : decode b_WR_spell 24 = .ok (.aload_n 0, 1) ∧ 24 + 1 = 25 := ⟨by decide +kernel, rfl⟩
theorem dWR_spell_25 : decode b_WR_spell 25 = .ok (.getfield 21, 3) ∧ 25 + 3 = 28 := ⟨by decide +kernel, rfl⟩
theorem dWR_spell_28 : decode b_WR_spell 28 = .ok (.iload 4, 2) ∧ 28 + 2 = 30 := ⟨by decide +kernel, rfl⟩
theorem dWR_spell_30 : decode b_WR_spell 30 = .ok (.aload_n 2, 1) ∧ 30 + 1 = 31 := ⟨by decide +kernel, rfl⟩
theorem dWR_spell_31 : decode b_WR_spell 31 = .ok (.iload 4, 2) ∧ 31 + 2 = 33 := ⟨by decide +kernel, rfl⟩
theorem dWR_spell_33 : decode b_WR_spell 33 = .ok (.invokevirtual 161, 3) ∧ 33 + 3 = 36 := ⟨by decide +kernel, rfl⟩
theorem dWR_spell_36 : decode b_WR_spell 36 = .ok (.i2b, 1) ∧ 36 + 1 = 37 := ⟨by decide +kernel, rfl⟩
theorem dWR_spell_37 : decode b_WR_spell 37 = .ok (.bastore, 1) ∧ 37 + 1 = 38 := ⟨by decide +kernel, rfl⟩
theorem dWR_spell_38 : decode b_WR_spell 38 = .ok (.iinc 4 (1), 3) ∧ 38 + 3 = 41 := ⟨by decide +kernel, rfl⟩
theorem dWR_spell_41 : decode b_WR_spell 41 = .ok (.goto (-23), 3) ∧ 41 + 3 = 44 ∧ ((41 : Nat) : Int) + (-23) = ((18 : Nat) : Int) := ⟨by decide +kernel, rfl, by decide⟩
theorem dWR_spell_44 : decode b_WR_spell 44 = .ok (.iload_n 3, 1) ∧ 44 + 1 = 45 := ⟨by decide +kernel, rfl⟩
theorem dWR_spell_45 : decode b_WR_spell 45 = .ok (.ireturn, 1) ∧ 45 + 1 = 46 := ⟨by decide +kernel, rfl⟩
theorem dWR_numberEntries_0 : decode b_WR_numberEntries 0 = .ok (.aload_n 0, 1) ∧ 0 + 1 = 1 := ⟨by decide +kernel, rfl⟩
theorem dWR_numberEntries_1 : decode b_WR_numberEntries 1 = .ok (.getfield 18, 3) ∧ 1 + 3 = 4 := ⟨by decide +kernel, rfl⟩
theorem dWR_numberEntries_4 : decode b_WR_numberEntries 4 = .ok (.invokevirtual 118, 3) ∧ 4 + 3 = 7 := ⟨by decide +kernel, rfl⟩
theorem dWR_numberEntries_7 : decode b_WR_numberEntries 7 = .ok (.aload_n 0, 1) ∧ 7 + 1 = 8 := ⟨by decide +kernel, rfl⟩
theorem dWR_numberEntries_8 : decode b_WR_numberEntries 8 = .ok (.iconst 1, 1) ∧ 8 + 1 = 9 := ⟨by decide +kernel, rfl⟩
theorem dWR_numberEntries_9 : decode b_WR_numberEntries 9 = .ok (.putfield 86, 3) ∧ 9 + 3 = 12 := ⟨by decide +kernel, rfl⟩
theorem dWR_numberEntries_12 : decode b_WR_numberEntries 12 = .ok (.iconst 0, 1) ∧ 12 + 1 = 13 := ⟨by decide +kernel, rfl⟩
theorem dWR_numberEntries_13 : decode b_WR_numberEntries 13 = .ok (.istore_n 1, 1) ∧ 13 + 1 = 14 := ⟨by decide +kernel, rfl⟩
theorem dWR_numberEntries_14 : decode b_WR_numberEntries 14 = .ok (.iload_n 1, 1) ∧ 14 + 1 = 15 := ⟨by decide +kernel, rfl⟩
theorem dWR_numberEntries_15 : decode b_WR_numberEntries 15 = .ok (.bipush (11), 2) ∧ 15 + 2 = 17 := ⟨by decide +kernel, rfl⟩
theorem dWR_numberEntries_17 : decode b_WR_numberEntries 17 = .ok (.if_icmp .ge (67), 3) ∧ 17 + 3 = 20 ∧ ((17 : Nat) : Int) + (67) = ((84 : Nat) : Int) := ⟨by decide +kernel, rfl, by decide⟩
theorem dWR_numberEntries_20 : decode b_WR_numberEntries 20 = .ok (.aload_n 0, 1) ∧ 20 + 1 = 21 := ⟨by decide +kernel, rfl⟩
theorem dWR_numberEntries_21 : decode b_WR_numberEntries 21 = .ok (.getfield 25, 3) ∧ 21 + 3 = 24 := ⟨by decide +kernel, rfl⟩
theorem dWR_numberEntries_24 : decode b_WR_numberEntries 24 = .ok (.iload_n 1, 1) ∧ 24 + 1 = 25 := ⟨by decide +kernel, rfl⟩
theorem dWR_numberEntries_25 : decode b_WR_numberEntries 25 = .ok (.iconst 0, 1) ∧ 25 + 1 = 26 := ⟨by decide +kernel, rfl⟩
theorem dWR_numberEntries_26 : decode b_WR_numberEntries 26 = .ok (.iastore, 1) ∧ 26 + 1 = 27 := ⟨by decide +kernel, rfl⟩
theorem dWR_numberEntries_27 : decode b_WR_numberEntries 27 = .ok (.aload_n 0, 1) ∧ 27 + 1 = 28 := ⟨by decide +kernel, rfl⟩
theorem dWR_numberEntries_28 : decode b_WR_numberEntries 28 = .ok (.iload_n 1, 1) ∧ 28 + 1 = 29 := ⟨by decide +kernel, rfl⟩
theorem dWR_numberEntries_29 : decode b_WR_numberEntries 29 = .ok (.invokevirtual 140, 3) ∧ 29 + 3 = 32 := ⟨by decide +kernel, rfl⟩
theorem dWR_numberEntries_32 : decode b_WR_numberEntries 32 = .ok (.ifCond .eq (46), 3) ∧ 32 + 3 = 35 ∧ ((32 : Nat) : Int) + (46) = ((78 : Nat) : Int) := ⟨by decide +kernel, rfl, by decide⟩
theorem dWR_numberEntries_35 : decode b_WR_numberEntries 35 = .ok (.aload_n 0, 1) ∧ 35 + 1 = 36 := ⟨by decide +kernel, rfl⟩
theorem dWR_numberEntries_36 : decode b_WR_numberEntries 36 = .ok (.getfield 25, 3) ∧ 36 + 3 = 39 := ⟨by decide +kernel, rfl⟩
theorem dWR_numberEntries_39 : decode b_WR_numberEntries 39 = .ok (.iload_n 1, 1) ∧ 39 + 1 = 40 := ⟨by decide +kernel, rfl⟩
theorem dWR_numberEntries_40 : decode b_WR_numberEntries 40 = .ok (.aload_n 0, 1) ∧ 40 + 1 = 41 := ⟨by decide +kernel, rfl⟩
theorem dWR_numberEntries_41 : decode b_WR_numberEntries 41 = .ok (.getfield 86, 3) ∧ 41 + 3 = 44 := ⟨by decide +kernel, rfl⟩
theorem dWR_numberEntries_44 : decode b_WR_numberEntries 44 = .ok (.iastore, 1) ∧ 44 + 1 = 45 := ⟨by decide +kernel, rfl⟩
theorem dWR_numberEntries_45 : decode b_WR_numberEntries 45 = .ok (.aload_n 0, 1) ∧ 45 + 1 = 46 := ⟨by decide +kernel, rfl⟩
theorem dWR_numberEntries_46 : decode b_WR_numberEntries 46 = .ok (.dup, 1) ∧ 46 + 1 = 47 := ⟨by decide +kernel, rfl⟩
theorem dWR_numberEntries_47 : decode b_WR_numberEntries 47 = .ok (.getfield 86, 3) ∧ 47 + 3 = 50 := ⟨by decide +kernel, rfl⟩
theorem dWR_numberEntries_50 : decode b_WR_numberEntries 50 = .ok (.iconst 1, 1) ∧ 50 + 1 = 51 := ⟨by decide +kernel, rfl⟩
theorem dWR_numberEntries_51 : decode b_WR_numberEntries 51 = .ok (.iadd, 1) ∧ 51 + 1 = 52 := ⟨by decide +kernel, rfl⟩
theorem dWR_numberEntries_52 : decode b_WR_numberEntries 52 = .ok (.putfield 86, 3) ∧ 52 + 3 = 55 := ⟨by decide +kernel, rfl⟩
theorem dWR_numberEntries_55 : decode b_WR_numberEntries 55 = .ok (.aload_n 0, 1) ∧ 55 + 1 = 56 := ⟨by decide +kernel, rfl⟩
theorem dWR_numberEntries_56 : decode b_WR_numberEntries 56 = .ok (.getfield 29, 3) ∧ 56 + 3 = 59 := ⟨by decide +kernel, rfl⟩
theorem dWR_numberEntries_59 : decode b_WR_numberEntries 59 = .ok (.iload_n 1, 1) ∧ 59 + 1 = 60 := ⟨by decide +kernel, rfl⟩
theorem dWR_numberEntries_60 : decode b_WR_numberEntries 60 = .ok (.aload_n 0, 1) ∧ 60 + 1 = 61 := ⟨by decide +kernel, rfl⟩
theorem dWR_numberEntries_61 : decode b_WR_numberEntries 61 = .ok (.getfield 18, 3) ∧ 61 + 3 = 64 := ⟨by decide +kernel, rfl⟩
theorem dWR_numberEntries_64 : decode b_WR_numberEntries 64 = .ok (.aload_n 0, 1) ∧ 64 + 1 = 65 := ⟨by decide +kernel, rfl⟩
theorem dWR_numberEntries_65 : decode b_WR_numberEntries 65 = .ok (.getfield 21, 3) ∧ 65 + 3 = 68 := ⟨by decide +kernel, rfl⟩
theorem dWR_numberEntries_68 : decode b_WR_numberEntries 68 = .ok (.iconst 0, 1) ∧ 68 + 1 = 69 := ⟨by decide +kernel, rfl⟩
theorem dWR_numberEntries_69 : decode b_WR_numberEntries 69 = .ok (.aload_n 0, 1) ∧ 69 + 1 = 70 := ⟨by decide +kernel, rfl⟩
theorem dWR_numberEntries_70 : decode b_WR_numberEntries 70 = .ok (.iload_n 1, 1) ∧ 70 + 1 = 71 := ⟨by decide +kernel, rfl⟩
theorem dWR_numberEntries_71 : decode b_WR_numberEntries 71 = .ok (.invokevirtual 144, 3) ∧ 71 + 3 = 74 := ⟨by decide +kernel, rfl⟩
theorem dWR_numberEntries_74 : decode b_WR_numberEntries 74 = .ok (.invokevirtual 123, 3) ∧ 74 + 3 = 77 := ⟨by decide +kernel, rfl⟩
theorem dWR_numberEntries_77 : decode b_WR_numberEntries 77 = .ok (.iastore, 1) ∧ 77 + 1 = 78 := ⟨by decide +kernel, rfl⟩
theorem dWR_numberEntries_78 : decode b_WR_numberEntries 78 = .ok (.iinc 1 (1), 3) ∧ 78 + 3 = 81 := ⟨by decide +kernel, rfl⟩
theorem dWR_numberEntries_81 : decode b_WR_numberEntries 81 = .ok (.goto (-67), 3) ∧ 81 + 3 = 84 ∧ ((81 : Nat) : Int) + (-67) = ((14 : Nat) : Int) := ⟨by decide +kernel, rfl, by decide⟩
theorem dWR_numberEntries_84 : decode b_WR_numberEntries 84 = .ok (.aload_n 0, 1) ∧ 84 + 1 = 85 := ⟨by decide +kernel, rfl⟩
theorem dWR_numberEntries_85 : decode b_WR_numberEntries 85 = .ok (.getfield 35, 3) ∧ 85 + 3 = 88 := ⟨by decide +kernel, rfl⟩
theorem dWR_numberEntries_88 : decode b_WR_numberEntries 88 = .ok (.bipush (10), 2) ∧ 88 + 2 = 90 := ⟨by decide +kernel, rfl⟩
theorem dWR_numberEntries_90 : decode b_WR_numberEntries 90 = .ok (.aload_n 0, 1) ∧ 90 + 1 = 91 := ⟨by decide +kernel, rfl⟩
theorem dWR_numberEntries_91 : decode b_WR_numberEntries 91 = .ok (.getfield 18, 3) ∧ 91 + 3 = 94 := ⟨by decide +kernel, rfl⟩
theorem dWR_numberEntries_94 : decode b_WR_numberEntries 94 = .ok (.getfield 137, 3) ∧ 94 + 3 = 97 := ⟨by decide +kernel, rfl⟩
theorem dWR_numberEntries_97 : decode b_WR_numberEntries 97 = .ok (.iastore, 1) ∧ 97 + 1 = 98 := ⟨by decide +kernel, rfl⟩
theorem dWR_numberEntries_98 : decode b_WR_numberEntries 98 = .ok (.return_, 1) ∧ 98 + 1 = 99 := ⟨by decide +kernel, rfl⟩
theorem dWR_upTo_0 : decode b_WR_upTo 0 = .ok (.iload_n 0, 1) ∧ 0 + 1 = 1 := ⟨by decide +kernel, rfl⟩
theorem dWR_upTo_1 : decode b_WR_upTo 1 = .ok (.iload_n 1, 1) ∧ 1 + 1 = 2 := ⟨by decide +kernel, rfl⟩
theorem dWR_upTo_2 : decode b_WR_upTo 2 = .ok (.iadd, 1) ∧ 2 + 1 = 3 := ⟨by decide +kernel, rfl⟩
theorem dWR_upTo_3 : decode b_WR_upTo 3 = .ok (.iconst 1, 1) ∧ 3 + 1 = 4 := ⟨by decide +kernel, rfl⟩
theorem dWR_upTo_4 : decode b_WR_upTo 4 = .ok (.isub, 1) ∧ 4 + 1 = 5 := ⟨by decide +kernel, rfl⟩
theorem dWR_upTo_5 : decode b_WR_upTo 5 = .ok (.iload_n 1, 1) ∧ 5 + 1 = 6 := ⟨by decide +kernel, rfl⟩
theorem dWR_upTo_6 : decode b_WR_upTo 6 = .ok (.ineg, 1) ∧ 6 + 1 = 7 := ⟨by decide +kernel, rfl⟩
theorem dWR_upTo_7 : decode b_WR_upTo 7 = .ok (.iand, 1) ∧ 7 + 1 = 8 := ⟨by decide +kernel, rfl⟩
theorem dWR_upTo_8 : decode b_WR_upTo 8 = .ok (.ireturn, 1) ∧ 8 + 1 = 9 := ⟨by decide +kernel, rfl⟩
theorem dWR_alignmentOf_0 : decode b_WR_alignmentOf 0 = .ok (.iload_n 1, 1) ∧ 0 + 1 = 1 := ⟨by decide +kernel, rfl⟩
theorem dWR_alignmentOf_1 : decode b_WR_alignmentOf 1 = .ok (.iconst 3, 1) ∧ 1 + 1 = 2 := ⟨by decide +kernel, rfl⟩
theorem dWR_alignmentOf_2 : decode b_WR_alignmentOf 2 = .ok (.if_icmp .gt (15), 3) ∧ 2 + 3 = 5 ∧ ((2 : Nat) : Int) + (15) = ((17 : Nat) : Int) := ⟨by decide +kernel, rfl, by decide⟩
theorem dWR_alignmentOf_5 : decode b_WR_alignmentOf 5 = .ok (.aload_n 0, 1) ∧ 5 + 1 = 6 := ⟨by decide +kernel, rfl⟩
theorem dWR_alignmentOf_6 : decode b_WR_alignmentOf 6 = .ok (.getfield 47, 3) ∧ 6 + 3 = 9 := ⟨by decide +kernel, rfl⟩
theorem dWR_alignmentOf_9 : decode b_WR_alignmentOf 9 = .ok (.getfield 171, 3) ∧ 9 + 3 = 12 := ⟨by decide +kernel, rfl⟩
theorem dWR_alignmentOf_12 : decode b_WR_alignmentOf 12 = .ok (.iload_n 1, 1) ∧ 12 + 1 = 13 := ⟨by decide +kernel, rfl⟩
theorem dWR_alignmentOf_13 : decode b_WR_alignmentOf 13 = .ok (.iaload, 1) ∧ 13 + 1 = 14 := ⟨by decide +kernel, rfl⟩
theorem dWR_alignmentOf_14 : decode b_WR_alignmentOf 14 = .ok (.goto (8), 3) ∧ 14 + 3 = 17 ∧ ((14 : Nat) : Int) + (8) = ((22 : Nat) : Int) := ⟨by decide +kernel, rfl, by decide⟩
theorem dWR_alignmentOf_17 : decode b_WR_alignmentOf 17 = .ok (.getstatic 174, 3) ∧ 17 + 3 = 20 := ⟨by decide +kernel, rfl⟩
theorem dWR_alignmentOf_20 : decode b_WR_alignmentOf 20 = .ok (.iload_n 1, 1) ∧ 20 + 1 = 21 := ⟨by decide +kernel, rfl⟩
theorem dWR_alignmentOf_21 : decode b_WR_alignmentOf 21 = .ok (.iaload, 1) ∧ 21 + 1 = 22 := ⟨by decide +kernel, rfl⟩
theorem dWR_alignmentOf_22 : decode b_WR_alignmentOf 22 = .ok (.ireturn, 1) ∧ 22 + 1 = 23 := ⟨by decide +kernel, rfl⟩
theorem dWR_layParts_0 : decode b_WR_layParts 0 = .ok (.bipush (52), 2) ∧ 0 + 2 = 2 := ⟨by decide +kernel, rfl⟩
theorem dWR_layParts_2 : decode b_WR_layParts 2 = .ok (.istore_n 1, 1) ∧ 2 + 1 = 3 := ⟨by decide +kernel, rfl⟩
theorem dWR_layParts_3 : decode b_WR_layParts 3 = .ok (.iconst 0, 1) ∧ 3 + 1 = 4 := ⟨by decide +kernel, rfl⟩
theorem dWR_layParts_4 : decode b_WR_layParts 4 = .ok (.istore_n 2, 1) ∧ 4 + 1 = 5 := ⟨by decide +kernel, rfl⟩
theorem dWR_layParts_5 : decode b_WR_layParts 5 = .ok (.iload_n 2, 1) ∧ 5 + 1 = 6 := ⟨by decide +kernel, rfl⟩
theorem dWR_layParts_6 : decode b_WR_layParts 6 = .ok (.bipush (11), 2) ∧ 6 + 2 = 8 := ⟨by decide +kernel, rfl⟩
theorem dWR_layParts_8 : decode b_WR_layParts 8 = .ok (.if_icmp .ge (61), 3) ∧ 8 + 3 = 11 ∧ ((8 : Nat) : Int) + (61) = ((69 : Nat) : Int) := ⟨by decide +kernel, rfl, by decide⟩
theorem dWR_layParts_11 : decode b_WR_layParts 11 = .ok (.iload_n 2, 1) ∧ 11 + 1 = 12 := ⟨by decide +kernel, rfl⟩
theorem dWR_layParts_12 : decode b_WR_layParts 12 = .ok (.iconst 3, 1) ∧ 12 + 1 = 13 := ⟨by decide +kernel, rfl⟩
theorem dWR_layParts_13 : decode b_WR_layParts 13 = .ok (.if_icmp .ne (13), 3) ∧ 13 + 3 = 16 ∧ ((13 : Nat) : Int) + (13) = ((26 : Nat) : Int) := ⟨by decide +kernel, rfl, by decide⟩
theorem dWR_layParts_16 : decode b_WR_layParts 16 = .ok (.aload_n 0, 1) ∧ 16 + 1 = 17 := ⟨by decide +kernel, rfl⟩
theorem dWR_layParts_17 : decode b_WR_layParts 17 = .ok (.getfield 32, 3) ∧ 17 + 3 = 20 := ⟨by decide +kernel, rfl⟩
theorem dWR_layParts_20 : decode b_WR_layParts 20 = .ok (.iconst 3, 1) ∧ 20 + 1 = 21 := ⟨by decide +kernel, rfl⟩
theorem dWR_layParts_21 : decode b_WR_layParts 21 = .ok (.iload_n 1, 1) ∧ 21 + 1 = 22 := ⟨by decide +kernel, rfl⟩
theorem dWR_layParts_22 : decode b_WR_layParts 22 = .ok (.iastore, 1) ∧ 22 + 1 = 23 := ⟨by decide +kernel, rfl⟩
theorem dWR_layParts_23 : decode b_WR_layParts 23 = .ok (.goto (40), 3) ∧ 23 + 3 = 26 ∧ ((23 : Nat) : Int) + (40) = ((63 : Nat) : Int) := ⟨by decide +kernel, rfl, by decide⟩
theorem dWR_layParts_26 : decode b_WR_layParts 26 = .ok (.aload_n 0, 1) ∧ 26 + 1 = 27 := ⟨by decide +kernel, rfl⟩
theorem dWR_layParts_27 : decode b_WR_layParts 27 = .ok (.iload_n 2, 1) ∧ 27 + 1 = 28 := ⟨by decide +kernel, rfl⟩
theorem dWR_layParts_28 : decode b_WR_layParts 28 = .ok (.invokevirtual 140, 3) ∧ 28 + 3 = 31 := ⟨by decide +kernel, rfl⟩
theorem dWR_layParts_31 : decode b_WR_layParts 31 = .ok (.ifCond .eq (32), 3) ∧ 31 + 3 = 34 ∧ ((31 : Nat) : Int) + (32) = ((63 : Nat) : Int) := ⟨by decide +kernel, rfl, by decide⟩
theorem dWR_layParts_34 : decode b_WR_layParts 34 = .ok (.aload_n 0, 1) ∧ 34 + 1 = 35 := ⟨by decide +kernel, rfl⟩
theorem dWR_layParts_35 : decode b_WR_layParts 35 = .ok (.getfield 32, 3) ∧ 35 + 3 = 38 := ⟨by decide +kernel, rfl⟩
theorem dWR_layParts_38 : decode b_WR_layParts 38 = .ok (.iload_n 2, 1) ∧ 38 + 1 = 39 := ⟨by decide +kernel, rfl⟩
theorem dWR_layParts_39 : decode b_WR_layParts 39 = .ok (.iload_n 1, 1) ∧ 39 + 1 = 40 := ⟨by decide +kernel, rfl⟩
theorem dWR_layParts_40 : decode b_WR_layParts 40 = .ok (.aload_n 0, 1) ∧ 40 + 1 = 41 := ⟨by decide +kernel, rfl⟩
theorem dWR_layParts_41 : decode b_WR_layParts 41 = .ok (.iload_n 2, 1) ∧ 41 + 1 = 42 := ⟨by decide +kernel, rfl⟩
theorem dWR_layParts_42 : decode b_WR_layParts 42 = .ok (.invokevirtual 165, 3) ∧ 42 + 3 = 45 := ⟨by decide +kernel, rfl⟩
theorem dWR_layParts_45 : decode b_WR_layParts 45 = .ok (.invokestatic 168, 3) ∧ 45 + 3 = 48 := ⟨by decide +kernel, rfl⟩
theorem dWR_layParts_48 : decode b_WR_layParts 48 = .ok (.iastore, 1) ∧ 48 + 1 = 49 := ⟨by decide +kernel, rfl⟩
theorem dWR_layParts_49 : decode b_WR_layParts 49 = .ok (.aload_n 0, 1) ∧ 49 + 1 = 50 := ⟨by decide +kernel, rfl⟩
theorem dWR_layParts_50 : decode b_WR_layParts 50 = .ok (.getfield 32, 3) ∧ 50 + 3 = 53 := ⟨by decide +kernel, rfl⟩
theorem dWR_layParts_53 : decode b_WR_layParts 53 = .ok (.iload_n 2, 1) ∧ 53 + 1 = 54 := ⟨by decide +kernel, rfl⟩
theorem dWR_layParts_54 : decode b_WR_layParts 54 = .ok (.iaload, 1) ∧ 54 + 1 = 55 := ⟨by decide +kernel, rfl⟩
theorem dWR_layParts_55 : decode b_WR_layParts 55 = .ok (.aload_n 0, 1) ∧ 55 + 1 = 56 := ⟨by decide +kernel, rfl⟩
theorem dWR_layParts_56 : decode b_WR_layParts 56 = .ok (.getfield 35, 3) ∧ 56 + 3 = 59 := ⟨by decide +kernel, rfl⟩
theorem dWR_layParts_59 : decode b_WR_layParts 59 = .ok (.iload_n 2, 1) ∧ 59 + 1 = 60 := ⟨by decide +kernel, rfl⟩
theorem dWR_layParts_60 : decode b_WR_layParts 60 = .ok (.iaload, 1) ∧ 60 + 1 = 61 := ⟨by decide +kernel, rfl⟩
theorem dWR_layParts_61 : decode b_WR_layParts 61 = .ok (.iadd, 1) ∧ 61 + 1 = 62 := ⟨by decide +kernel, rfl⟩
theorem dWR_layParts_62 : decode b_WR_layParts 62 = .ok (.istore_n 1, 1) ∧ 62 + 1 = 63 := ⟨by decide +kernel, rfl⟩
theorem dWR_layParts_63 : decode b_WR_layParts 63 = .ok (.iinc 2 (1), 3) ∧ 63 + 3 = 66 := ⟨by decide +kernel, rfl⟩
theorem dWR_layParts_66 : decode b_WR_layParts 66 = .ok (.goto (-61), 3) ∧ 66 + 3 = 69 ∧ ((66 : Nat) : Int) + (-61) = ((5 : Nat) : Int) := ⟨by decide +kernel, rfl, by decide⟩
theorem dWR_layParts_69 : decode b_WR_layParts 69 = .ok (.aload_n 0, 1) ∧ 69 + 1 = 70 := ⟨by decide +kernel, rfl⟩
theorem dWR_layParts_70 : decode b_WR_layParts 70 = .ok (.iload_n 1, 1) ∧ 70 + 1 = 71 := ⟨by decide +kernel, rfl⟩
theorem dWR_layParts_71 : decode b_WR_layParts 71 = .ok (.iconst 4, 1) ∧ 71 + 1 = 72 := ⟨by decide +kernel, rfl⟩
theorem dWR_layParts_72 : decode b_WR_layParts 72 = .ok (.invokestatic 168, 3) ∧ 72 + 3 = 75 := ⟨by decide +kernel, rfl⟩
theorem dWR_layParts_75 : decode b_WR_layParts 75 = .ok (.putfield 82, 3) ∧ 75 + 3 = 78 := ⟨by decide +kernel, rfl⟩
theorem dWR_layParts_78 : decode b_WR_layParts 78 = .ok (.return_, 1) ∧ 78 + 1 = 79 := ⟨by decide +kernel, rfl⟩
theorem dAR_rangeCheck_0 : decode b_AR_rangeCheck 0 = .ok (.iload_n 1, 1) ∧ 0 + 1 = 1 := ⟨by decide +kernel, rfl⟩
theorem dAR_rangeCheck_1 : decode b_AR_rangeCheck 1 = .ok (.iload_n 2, 1) ∧ 1 + 1 = 2 := ⟨by decide +kernel, rfl⟩
theorem dAR_rangeCheck_2 : decode b_AR_rangeCheck 2 = .ok (.if_icmp .le (44), 3) ∧ 2 + 3 = 5 ∧ ((2 : Nat) : Int) + (44) = ((46 : Nat) : Int) := ⟨by decide +kernel, rfl, by decide⟩
theorem dAR_rangeCheck_46 : decode b_AR_rangeCheck 46 = .ok (.iload_n 1, 1) ∧ 46 + 1 = 47 := ⟨by decide +kernel, rfl⟩
theorem dAR_rangeCheck_47 : decode b_AR_rangeCheck 47 = .ok (.ifCond .ge (12), 3) ∧ 47 + 3 = 50 ∧ ((47 : Nat) : Int) + (12) = ((59 : Nat) : Int) := ⟨by decide +kernel, rfl, by decide⟩
theorem dAR_rangeCheck_59 : decode b_AR_rangeCheck 59 = .ok (.iload_n 2, 1) ∧ 59 + 1 = 60 := ⟨by decide +kernel, rfl⟩
theorem dAR_rangeCheck_60 : decode b_AR_rangeCheck 60 = .ok (.iload_n 0, 1) ∧ 60 + 1 = 61 := ⟨by decide +kernel, rfl⟩
theorem dAR_rangeCheck_61 : decode b_AR_rangeCheck 61 = .ok (.if_icmp .le (12), 3) ∧ 61 + 3 = 64 ∧ ((61 : Nat) : Int) + (12) = ((73 : Nat) : Int) := ⟨by decide +kernel, rfl, by decide⟩
theorem dAR_rangeCheck_73 : decode b_AR_rangeCheck 73 = .ok (.return_, 1) ∧ 73 + 1 = 74 := ⟨by decide +kernel, rfl⟩
theorem dAR_fill0_0 : decode b_AR_fill0 0 = .ok (.aload_n 0, 1) ∧ 0 + 1 = 1 := ⟨by decide +kernel, rfl⟩
theorem dAR_fill0_1 : decode b_AR_fill0 1 = .ok (.arraylength, 1) ∧ 1 + 1 = 2 := ⟨by decide +kernel, rfl⟩
theorem dAR_fill0_2 : decode b_AR_fill0 2 = .ok (.iload_n 1, 1) ∧ 2 + 1 = 3 := ⟨by decide +kernel, rfl⟩
theorem dAR_fill0_3 : decode b_AR_fill0 3 = .ok (.iload_n 2, 1) ∧ 3 + 1 = 4 := ⟨by decide +kernel, rfl⟩
theorem dAR_fill0_4 : decode b_AR_fill0 4 = .ok (.invokestatic 13, 3) ∧ 4 + 3 = 7 := ⟨by decide +kernel, rfl⟩
theorem dAR_fill0_7 : decode b_AR_fill0 7 = .ok (.iload_n 1, 1) ∧ 7 + 1 = 8 := ⟨by decide +kernel, rfl⟩
theorem dAR_fill0_8 : decode b_AR_fill0 8 = .ok (.istore 4, 2) ∧ 8 + 2 = 10 := ⟨by decide +kernel, rfl⟩
theorem dAR_fill0_10 : decode b_AR_fill0 10 = .ok (.iload 4, 2) ∧ 10 + 2 = 12 := ⟨by decide +kernel, rfl⟩
theorem dAR_fill0_12 : decode b_AR_fill0 12 = .ok (.iload_n 2, 1) ∧ 12 + 1 = 13 := ⟨by decide +kernel, rfl⟩
theorem dAR_fill0_13 : decode b_AR_fill0 13 = .ok (.if_icmp .ge (14), 3) ∧ 13 + 3 = 16 ∧ ((13 : Nat) : Int) + (14) = ((27 : Nat) : Int) := ⟨by decide +kernel, rfl, by decide⟩
theorem dAR_fill0_16 : decode b_AR_fill0 16 = .ok (.aload_n 0, 1) ∧ 16 + 1 = 17 := ⟨by decide +kernel, rfl⟩
theorem dAR_fill0_17 : decode b_AR_fill0 17 = .ok (.iload 4, 2) ∧ 17 + 2 = 19 := ⟨by decide +kernel, rfl⟩
theorem dAR_fill0_19 : decode b_AR_fill0 19 = .ok (.iload_n 3, 1) ∧ 19 + 1 = 20 := ⟨by decide +kernel, rfl⟩
theorem dAR_fill0_20 : decode b_AR_fill0 20 = .ok (.bastore, 1) ∧ 20 + 1 = 21 := ⟨by decide +kernel, rfl⟩
theorem dAR_fill0_21 : decode b_AR_fill0 21 = .ok (.iinc 4 (1), 3) ∧ 21 + 3 = 24 := ⟨by decide +kernel, rfl⟩
theorem dAR_fill0_24 : decode b_AR_fill0 24 = .ok (.goto (-14), 3) ∧ 24 + 3 = 27 ∧ ((24 : Nat) : Int) + (-14) = ((10 : Nat) : Int) := ⟨by decide +kernel, rfl, by decide⟩
theorem dAR_fill0_27 : decode b_AR_fill0 27 = .ok (.return_, 1) ∧ 27 + 1 = 28 := ⟨by decide +kernel, rfl⟩
theorem dFB_zeros_0 : decode b_FB_zeros 0 = .ok (.iload_n 1, 1) ∧ 0 + 1 = 1 := ⟨by decide +kernel, rfl⟩
theorem dFB_zeros_1 : decode b_FB_zeros 1 = .ok (.ifCond .lt (10), 3) ∧ 1 + 3 = 4 ∧ ((1 : Nat) : Int) + (10) = ((11 : Nat) : Int) := ⟨by decide +kernel, rfl, by decide⟩
theorem dFB_zeros_4 : decode b_FB_zeros 4 = .ok (.iload_n 1, 1) ∧ 4 + 1 = 5 := ⟨by decide +kernel, rfl⟩
theorem dFB_zeros_5 : decode b_FB_zeros 5 = .ok (.sipush (8192), 3) ∧ 5 + 3 = 8 := ⟨by decide +kernel, rfl⟩
theorem dFB_zeros_8 : decode b_FB_zeros 8 = .ok (.if_icmp .le (4), 3) ∧ 8 + 3 = 11 ∧ ((8 : Nat) : Int) + (4) = ((12 : Nat) : Int) := ⟨by decide +kernel, rfl, by decide⟩
theorem dFB_zeros_11 : decode b_FB_zeros 11 = .ok (.return_, 1) ∧ 11 + 1 = 12 := ⟨by decide +kernel, rfl⟩
theorem dFB_zeros_12 : decode b_FB_zeros 12 = .ok (.aload_n 0, 1) ∧ 12 + 1 = 13 := ⟨by decide +kernel, rfl⟩
theorem dFB_zeros_13 : decode b_FB_zeros 13 = .ok (.getfield 9, 3) ∧ 13 + 3 = 16 := ⟨by decide +kernel, rfl⟩
theorem dFB_zeros_16 : decode b_FB_zeros 16 = .ok (.iconst 0, 1) ∧ 16 + 1 = 17 := ⟨by decide +kernel, rfl⟩
theorem dFB_zeros_17 : decode b_FB_zeros 17 = .ok (.iload_n 1, 1) ∧ 17 + 1 = 18 := ⟨by decide +kernel, rfl⟩
theorem dFB_zeros_18 : decode b_FB_zeros 18 = .ok (.iconst 0, 1) ∧ 18 + 1 = 19 := ⟨by decide +kernel, rfl⟩
theorem dFB_zeros_19 : decode b_FB_zeros 19 = .ok (.invokestatic 19, 3) ∧ 19 + 3 = 22 := ⟨by decide +kernel, rfl⟩
theorem dFB_zeros_22 : decode b_FB_zeros 22 = .ok (.aload_n 0, 1) ∧ 22 + 1 = 23 := ⟨by decide +kernel, rfl⟩
theorem dFB_zeros_23 : decode b_FB_zeros 23 = .ok (.iload_n 1, 1) ∧ 23 + 1 = 24 := ⟨by decide +kernel, rfl⟩
theorem dFB_zeros_24 : decode b_FB_zeros 24 = .ok (.putfield 15, 3) ∧ 24 + 3 = 27 := ⟨by decide +kernel, rfl⟩
theorem dFB_zeros_27 : decode b_FB_zeros 27 = .ok (.return_, 1) ∧ 27 + 1 = 28 := ⟨by decide +kernel, rfl⟩
theorem dFB_put2_0 : decode b_FB_put2 0 = .ok (.iload_n 1, 1) ∧ 0 + 1 = 1 := ⟨by decide +kernel, rfl⟩
theorem dFB_put2_1 : decode b_FB_put2 1 = .ok (.ifCond .lt (34), 3) ∧ 1 + 3 = 4 ∧ ((1 : Nat) : Int) + (34) = ((35 : Nat) : Int) := ⟨by decide +kernel, rfl, by decide⟩
theorem dFB_put2_4 : decode b_FB_put2 4 = .ok (.iload_n 1, 1) ∧ 4 + 1 = 5 := ⟨by decide +kernel, rfl⟩
theorem dFB_put2_5 : decode b_FB_put2 5 = .ok (.aload_n 0, 1) ∧ 5 + 1 = 6 := ⟨by decide +kernel, rfl⟩
theorem dFB_put2_6 : decode b_FB_put2 6 = .ok (.getfield 15, 3) ∧ 6 + 3 = 9 := ⟨by decide +kernel, rfl⟩
theorem dFB_put2_9 : decode b_FB_put2 9 = .ok (.iconst 1, 1) ∧ 9 + 1 = 10 := ⟨by decide +kernel, rfl⟩
theorem dFB_put2_10 : decode b_FB_put2 10 = .ok (.isub, 1) ∧ 10 + 1 = 11 := ⟨by decide +kernel, rfl⟩
theorem dFB_put2_11 : decode b_FB_put2 11 = .ok (.if_icmp .ge (24), 3) ∧ 11 + 3 = 14 ∧ ((11 : Nat) : Int) + (24) = ((35 : Nat) : Int) := ⟨by decide +kernel, rfl, by decide⟩
theorem dFB_put2_14 : decode b_FB_put2 14 = .ok (.aload_n 0, 1) ∧ 14 + 1 = 15 := ⟨by decide +kernel, rfl⟩
theorem dFB_put2_15 : decode b_FB_put2 15 = .ok (.getfield 9, 3) ∧ 15 + 3 = 18 := ⟨by decide +kernel, rfl⟩
theorem dFB_put2_18 : decode b_FB_put2 18 = .ok (.iload_n 1, 1) ∧ 18 + 1 = 19 := ⟨by decide +kernel, rfl⟩
theorem dFB_put2_19 : decode b_FB_put2 19 = .ok (.iload_n 2, 1) ∧ 19 + 1 = 20 := ⟨by decide +kernel, rfl⟩
theorem dFB_put2_20 : decode b_FB_put2 20 = .ok (.i2b, 1) ∧ 20 + 1 = 21 := ⟨by decide +kernel, rfl⟩
theorem dFB_put2_21 : decode b_FB_put2 21 = .ok (.bastore, 1) ∧ 21 + 1 = 22 := ⟨by decide +kernel, rfl⟩
theorem dFB_put2_22 : decode b_FB_put2 22 = .ok (.aload_n 0, 1) ∧ 22 + 1 = 23 := ⟨by decide +kernel, rfl⟩
theorem dFB_put2_23 : decode b_FB_put2 23 = .ok (.getfield 9, 3) ∧ 23 + 3 = 26 := ⟨by decide +kernel, rfl⟩
theorem dFB_put2_26 : decode b_FB_put2 26 = .ok (.iload_n 1, 1) ∧ 26 + 1 = 27 := ⟨by decide +kernel, rfl⟩
theorem dFB_put2_27 : decode b_FB_put2 27 = .ok (.iconst 1, 1) ∧ 27 + 1 = 28 := ⟨by decide +kernel, rfl⟩
theorem dFB_put2_28 : decode b_FB_put2 28 = .ok (.iadd, 1) ∧ 28 + 1 = 29 := ⟨by decide +kernel, rfl⟩
theorem dFB_put2_29 : decode b_FB_put2 29 = .ok (.iload_n 2, 1) ∧ 29 + 1 = 30 := ⟨by decide +kernel, rfl⟩
theorem dFB_put2_30 : decode b_FB_put2 30 = .ok (.bipush (8), 2) ∧ 30 + 2 = 32 := ⟨by decide +kernel, rfl⟩
theorem dFB_put2_32 : decode b_FB_put2 32 = .ok (.iushr, 1) ∧ 32 + 1 = 33 := ⟨by decide +kernel, rfl⟩
theorem dFB_put2_33 : decode b_FB_put2 33 = .ok (.i2b, 1) ∧ 33 + 1 = 34 := ⟨by decide +kernel, rfl⟩
theorem dFB_put2_34 : decode b_FB_put2 34 = .ok (.bastore, 1) ∧ 34 + 1 = 35 := ⟨by decide +kernel, rfl⟩
theorem dFB_put2_35 : decode b_FB_put2 35 = .ok (.return_, 1) ∧ 35 + 1 = 36 := ⟨by decide +kernel, rfl⟩
theorem dFB_put4_0 : decode b_FB_put4 0 = .ok (.iload_n 1, 1) ∧ 0 + 1 = 1 := ⟨by decide +kernel, rfl⟩
theorem dFB_put4_1 : decode b_FB_put4 1 = .ok (.ifCond .lt (60), 3) ∧ 1 + 3 = 4 ∧ ((1 : Nat) : Int) + (60) = ((61 : Nat) : Int) := ⟨by decide +kernel, rfl, by decide⟩
theorem dFB_put4_4 : decode b_FB_put4 4 = .ok (.iload_n 1, 1) ∧ 4 + 1 = 5 := ⟨by decide +kernel, rfl⟩
theorem dFB_put4_5 : decode b_FB_put4 5 = .ok (.aload_n 0, 1) ∧ 5 + 1 = 6 := ⟨by decide +kernel, rfl⟩
theorem dFB_put4_6 : decode b_FB_put4 6 = .ok (.getfield 15, 3) ∧ 6 + 3 = 9 := ⟨by decide +kernel, rfl⟩
theorem dFB_put4_9 : decode b_FB_put4 9 = .ok (.iconst 3, 1) ∧ 9 + 1 = 10 := ⟨by decide +kernel, rfl⟩
theorem dFB_put4_10 : decode b_FB_put4 10 = .ok (.isub, 1) ∧ 10 + 1 = 11 := ⟨by decide +kernel, rfl⟩
theorem dFB_put4_11 : decode b_FB_put4 11 = .ok (.if_icmp .ge (50), 3) ∧ 11 + 3 = 14 ∧ ((11 : Nat) : Int) + (50) = ((61 : Nat) : Int) := ⟨by decide +kernel, rfl, by decide⟩
theorem dFB_put4_14 : decode b_FB_put4 14 = .ok (.aload_n 0, 1) ∧ 14 + 1 = 15 := ⟨by decide +kernel, rfl⟩
theorem dFB_put4_15 : decode b_FB_put4 15 = .ok (.getfield 9, 3) ∧ 15 + 3 = 18 := ⟨by decide +kernel, rfl⟩
theorem dFB_put4_18 : decode b_FB_put4 18 = .ok (.iload_n 1, 1) ∧ 18 + 1 = 19 := ⟨by decide +kernel, rfl⟩
theorem dFB_put4_19 : decode b_FB_put4 19 = .ok (.iload_n 2, 1) ∧ 19 + 1 = 20 := ⟨by decide +kernel, rfl⟩
theorem dFB_put4_20 : decode b_FB_put4 20 = .ok (.i2b, 1) ∧ 20 + 1 = 21 := ⟨by decide +kernel, rfl⟩
theorem dFB_put4_21 : decode b_FB_put4 21 = .ok (.bastore, 1) ∧ 21 + 1 = 22 := ⟨by decide +kernel, rfl⟩
theorem dFB_put4_22 : decode b_FB_put4 22 = .ok (.aload_n 0, 1) ∧ 22 + 1 = 23 := ⟨by decide +kernel, rfl⟩
theorem dFB_put4_23 : decode b_FB_put4 23 = .ok (.getfield 9, 3) ∧ 23 + 3 = 26 := ⟨by decide +kernel, rfl⟩
theorem dFB_put4_26 : decode b_FB_put4 26 = .ok (.iload_n 1, 1) ∧ 26 + 1 = 27 := ⟨by decide +kernel, rfl⟩
theorem dFB_put4_27 : decode b_FB_put4 27 = .ok (.iconst 1, 1) ∧ 27 + 1 = 28 := ⟨by decide +kernel, rfl⟩
theorem dFB_put4_28 : decode b_FB_put4 28 = .ok (.iadd, 1) ∧ 28 + 1 = 29 := ⟨by decide +kernel, rfl⟩
theorem dFB_put4_29 : decode b_FB_put4 29 = .ok (.iload_n 2, 1) ∧ 29 + 1 = 30 := ⟨by decide +kernel, rfl⟩
theorem dFB_put4_30 : decode b_FB_put4 30 = .ok (.bipush (8), 2) ∧ 30 + 2 = 32 := ⟨by decide +kernel, rfl⟩
theorem dFB_put4_32 : decode b_FB_put4 32 = .ok (.iushr, 1) ∧ 32 + 1 = 33 := ⟨by decide +kernel, rfl⟩
theorem dFB_put4_33 : decode b_FB_put4 33 = .ok (.i2b, 1) ∧ 33 + 1 = 34 := ⟨by decide +kernel, rfl⟩
theorem dFB_put4_34 : decode b_FB_put4 34 = .ok (.bastore, 1) ∧ 34 + 1 = 35 := ⟨by decide +kernel, rfl⟩
theorem dFB_put4_35 : decode b_FB_put4 35 = .ok (.aload_n 0, 1) ∧ 35 + 1 = 36 := ⟨by decide +kernel, rfl⟩
theorem dFB_put4_36 : decode b_FB_put4 36 = .ok (.getfield 9, 3) ∧ 36 + 3 = 39 := ⟨by decide +kernel, rfl⟩
theorem dFB_put4_39 : decode b_FB_put4 39 = .ok (.iload_n 1, 1) ∧ 39 + 1 = 40 := ⟨by decide +kernel, rfl⟩
theorem dFB_put4_40 : decode b_FB_put4 40 = .ok (.iconst 2, 1) ∧ 40 + 1 = 41 := ⟨by decide +kernel, rfl⟩
theorem dFB_put4_41 : decode b_FB_put4 41 = .ok (.iadd, 1) ∧ 41 + 1 = 42 := ⟨by decide +kernel, rfl⟩
theorem dFB_put4_42 : decode b_FB_put4 42 = .ok (.iload_n 2, 1) ∧ 42 + 1 = 43 := ⟨by decide +kernel, rfl⟩
theorem dFB_put4_43 : decode b_FB_put4 43 = .ok (.bipush (16), 2) ∧ 43 + 2 = 45 := ⟨by decide +kernel, rfl⟩
theorem dFB_put4_45 : decode b_FB_put4 45 = .ok (.iushr, 1) ∧ 45 + 1 = 46 := ⟨by decide +kernel, rfl⟩
theorem dFB_put4_46 : decode b_FB_put4 46 = .ok (.i2b, 1) ∧ 46 + 1 = 47 := ⟨by decide +kernel, rfl⟩
theorem dFB_put4_47 : decode b_FB_put4 47 = .ok (.bastore, 1) ∧ 47 + 1 = 48 := ⟨by decide +kernel, rfl⟩
theorem dFB_put4_48 : decode b_FB_put4 48 = .ok (.aload_n 0, 1) ∧ 48 + 1 = 49 := ⟨by decide +kernel, rfl⟩
theorem dFB_put4_49 : decode b_FB_put4 49 = .ok (.getfield 9, 3) ∧ 49 + 3 = 52 := ⟨by decide +kernel, rfl⟩
theorem dFB_put4_52 : decode b_FB_put4 52 = .ok (.iload_n 1, 1) ∧ 52 + 1 = 53 := ⟨by decide +kernel, rfl⟩
theorem dFB_put4_53 : decode b_FB_put4 53 = .ok (.iconst 3, 1) ∧ 53 + 1 = 54 := ⟨by decide +kernel, rfl⟩
theorem dFB_put4_54 : decode b_FB_put4 54 = .ok (.iadd, 1) ∧ 54 + 1 = 55 := ⟨by decide +kernel, rfl⟩
theorem dFB_put4_55 : decode b_FB_put4 55 = .ok (.iload_n 2, 1) ∧ 55 + 1 = 56 := ⟨by decide +kernel, rfl⟩
theorem dFB_put4_56 : decode b_FB_put4 56 = .ok (.bipush (24), 2) ∧ 56 + 2 = 58 := ⟨by decide +kernel, rfl⟩
theorem dFB_put4_58 : decode b_FB_put4 58 = .ok (.iushr, 1) ∧ 58 + 1 = 59 := ⟨by decide +kernel, rfl⟩
theorem dFB_put4_59 : decode b_FB_put4 59 = .ok (.i2b, 1) ∧ 59 + 1 = 60 := ⟨by decide +kernel, rfl⟩
theorem dFB_put4_60 : decode b_FB_put4 60 = .ok (.bastore, 1) ∧ 60 + 1 = 61 := ⟨by decide +kernel, rfl⟩
theorem dFB_put4_61 : decode b_FB_put4 61 = .ok (.return_, 1) ∧ 61 + 1 = 62 := ⟨by decide +kernel, rfl⟩
theorem dCT_byteOf_0 : decode b_CT_byteOf 0 = .ok (.iload_n 1, 1) ∧ 0 + 1 = 1 := ⟨by decide +kernel, rfl⟩
theorem dCT_byteOf_1 : decode b_CT_byteOf 1 = .ok (.ifCond .lt (22), 3) ∧ 1 + 3 = 4 ∧ ((1 : Nat) : Int) + (22) = ((23 : Nat) : Int) := ⟨by decide +kernel, rfl, by decide⟩
theorem dCT_byteOf_4 : decode b_CT_byteOf 4 = .ok (.iload_n 1, 1) ∧ 4 + 1 = 5 := ⟨by decide +kernel, rfl⟩
theorem dCT_byteOf_5 : decode b_CT_byteOf 5 = .ok (.iconst 2, 1) ∧ 5 + 1 = 6 := ⟨by decide +kernel, rfl⟩
theorem dCT_byteOf_6 : decode b_CT_byteOf 6 = .ok (.if_icmp .gt (17), 3) ∧ 6 + 3 = 9 ∧ ((6 : Nat) : Int) + (17) = ((23 : Nat) : Int) := ⟨by decide +kernel, rfl, by decide⟩
theorem dCT_byteOf_9 : decode b_CT_byteOf 9 = .ok (.iload_n 2, 1) ∧ 9 + 1 = 10 := ⟨by decide +kernel, rfl⟩
theorem dCT_byteOf_10 : decode b_CT_byteOf 10 = .ok (.ifCond .lt (13), 3) ∧ 10 + 3 = 13 ∧ ((10 : Nat) : Int) + (13) = ((23 : Nat) : Int) := ⟨by decide +kernel, rfl, by decide⟩
theorem dCT_byteOf_13 : decode b_CT_byteOf 13 = .ok (.iload_n 2, 1) ∧ 13 + 1 = 14 := ⟨by decide +kernel, rfl⟩
theorem dCT_byteOf_14 : decode b_CT_byteOf 14 = .ok (.aload_n 0, 1) ∧ 14 + 1 = 15 := ⟨by decide +kernel, rfl⟩
theorem dCT_byteOf_15 : decode b_CT_byteOf 15 = .ok (.getfield 15, 3) ∧ 15 + 3 = 18 := ⟨by decide +kernel, rfl⟩
theorem dCT_byteOf_18 : decode b_CT_byteOf 18 = .ok (.iload_n 1, 1) ∧ 18 + 1 = 19 := ⟨by decide +kernel, rfl⟩
theorem dCT_byteOf_19 : decode b_CT_byteOf 19 = .ok (.iaload, 1) ∧ 19 + 1 = 20 := ⟨by decide +kernel, rfl⟩
theorem dCT_byteOf_20 : decode b_CT_byteOf 20 = .ok (.if_icmp .lt (5), 3) ∧ 20 + 3 = 23 ∧ ((20 : Nat) : Int) + (5) = ((25 : Nat) : Int) := ⟨by decide +kernel, rfl, by decide⟩
theorem dCT_byteOf_23 : decode b_CT_byteOf 23 = .ok (.iconst (-1), 1) ∧ 23 + 1 = 24 := ⟨by decide +kernel, rfl⟩
theorem dCT_byteOf_24 : decode b_CT_byteOf 24 = .ok (.ireturn, 1) ∧ 24 + 1 = 25 := ⟨by decide +kernel, rfl⟩
theorem dCT_byteOf_25 : decode b_CT_byteOf 25 = .ok (.aload_n 0, 1) ∧ 25 + 1 = 26 := ⟨by decide +kernel, rfl⟩
theorem dCT_byteOf_26 : decode b_CT_byteOf 26 = .ok (.getfield 9, 3) ∧ 26 + 3 = 29 := ⟨by decide +kernel, rfl⟩
theorem dCT_byteOf_29 : decode b_CT_byteOf 29 = .ok (.iload_n 1, 1) ∧ 29 + 1 = 30 := ⟨by decide +kernel, rfl⟩
theorem dCT_byteOf_30 : decode b_CT_byteOf 30 = .ok (.sipush (2048), 3) ∧ 30 + 3 = 33 := ⟨by decide +kernel, rfl⟩
theorem dCT_byteOf_33 : decode b_CT_byteOf 33 = .ok (.imul, 1) ∧ 33 + 1 = 34 := ⟨by decide +kernel, rfl⟩
theorem dCT_byteOf_34 : decode b_CT_byteOf 34 = .ok (.iload_n 2, 1) ∧ 34 + 1 = 35 := ⟨by decide +kernel, rfl⟩
theorem dCT_byteOf_35 : decode b_CT_byteOf 35 = .ok (.iadd, 1) ∧ 35 + 1 = 36 := ⟨by decide +kernel, rfl⟩
theorem dCT_byteOf_36 : decode b_CT_byteOf 36 = .ok (.baload, 1) ∧ 36 + 1 = 37 := ⟨by decide +kernel, rfl⟩
theorem dCT_byteOf_37 : decode b_CT_byteOf 37 = .ok (.sipush (255), 3) ∧ 37 + 3 = 40 := ⟨by decide +kernel, rfl⟩
theorem dCT_byteOf_40 : decode b_CT_byteOf 40 = .ok (.iand, 1) ∧ 40 + 1 = 41 := ⟨by decide +kernel, rfl⟩
theorem dCT_byteOf_41 : decode b_CT_byteOf 41 = .ok (.ireturn, 1) ∧ 41 + 1 = 42 := ⟨by decide +kernel, rfl⟩
theorem dOF_isShort_0 : decode b_OF_isShort 0 = .ok (.iload_n 0, 1) ∧ 0 + 1 = 1 := ⟨by decide +kernel, rfl⟩
theorem dOF_isShort_1 : decode b_OF_isShort 1 = .ok (.iconst 3, 1) ∧ 1 + 1 = 2 := ⟨by decide +kernel, rfl⟩
theorem dOF_isShort_2 : decode b_OF_isShort 2 = .ok (.iand, 1) ∧ 2 + 1 = 3 := ⟨by decide +kernel, rfl⟩
theorem dOF_isShort_3 : decode b_OF_isShort 3 = .ok (.iconst 3, 1) ∧ 3 + 1 = 4 := ⟨by decide +kernel, rfl⟩
theorem dOF_isShort_4 : decode b_OF_isShort 4 = .ok (.if_icmp .eq (7), 3) ∧ 4 + 3 = 7 ∧ ((4 : Nat) : Int) + (7) = ((11 : Nat) : Int) := ⟨by decide +kernel, rfl, by decide⟩
theorem dOF_isShort_7 : decode b_OF_isShort 7 = .ok (.iconst 1, 1) ∧ 7 + 1 = 8 := ⟨by decide +kernel, rfl⟩
theorem dOF_isShort_8 : decode b_OF_isShort 8 = .ok (.goto (4), 3) ∧ 8 + 3 = 11 ∧ ((8 : Nat) : Int) + (4) = ((12 : Nat) : Int) := ⟨by decide +kernel, rfl, by decide⟩
theorem dOF_isShort_11 : decode b_OF_isShort 11 = .ok (.iconst 0, 1) ∧ 11 + 1 = 12 := ⟨by decide +kernel, rfl⟩
theorem dOF_isShort_12 : decode b_OF_isShort 12 = .ok (.ireturn, 1) ∧ 12 + 1 = 13 := ⟨by decide +kernel, rfl⟩
theorem dCT_shortStarts_0 : decode b_CT_shortStarts 0 = .ok (.iconst 0, 1) ∧ 0 + 1 = 1 := ⟨by decide +kernel, rfl⟩
theorem dCT_shortStarts_1 : decode b_CT_shortStarts 1 = .ok (.istore_n 1, 1) ∧ 1 + 1 = 2 := ⟨by decide +kernel, rfl⟩
theorem dCT_shortStarts_2 : decode b_CT_shortStarts 2 = .ok (.iconst 0, 1) ∧ 2 + 1 = 3 := ⟨by decide +kernel, rfl⟩
theorem dCT_shortStarts_3 : decode b_CT_shortStarts 3 = .ok (.istore_n 2, 1) ∧ 3 + 1 = 4 := ⟨by decide +kernel, rfl⟩
theorem dCT_shortStarts_4 : decode b_CT_shortStarts 4 = .ok (.iload_n 2, 1) ∧ 4 + 1 = 5 := ⟨by decide +kernel, rfl⟩
theorem dCT_shortStarts_5 : decode b_CT_shortStarts 5 = .ok (.aload_n 0, 1) ∧ 5 + 1 = 6 := ⟨by decide +kernel, rfl⟩
theorem dCT_shortStarts_6 : decode b_CT_shortStarts 6 = .ok (.getfield 40, 3) ∧ 6 + 3 = 9 := ⟨by decide +kernel, rfl⟩
theorem dCT_shortStarts_9 : decode b_CT_shortStarts 9 = .ok (.if_icmp .ge (28), 3) ∧ 9 + 3 = 12 ∧ ((9 : Nat) : Int) + (28) = ((37 : Nat) : Int) := ⟨by decide +kernel, rfl, by decide⟩
theorem dCT_shortStarts_12 : decode b_CT_shortStarts 12 = .ok (.aload_n 0, 1) ∧ 12 + 1 = 13 := ⟨by decide +kernel, rfl⟩
theorem dCT_shortStarts_13 : decode b_CT_shortStarts 13 = .ok (.iconst 0, 1) ∧ 13 + 1 = 14 := ⟨by decide +kernel, rfl⟩
theorem dCT_shortStarts_14 : decode b_CT_shortStarts 14 = .ok (.aload_n 0, 1) ∧ 14 + 1 = 15 := ⟨by decide +kernel, rfl⟩
theorem dCT_shortStarts_15 : decode b_CT_shortStarts 15 = .ok (.iload_n 2, 1) ∧ 15 + 1 = 16 := ⟨by decide +kernel, rfl⟩
theorem dCT_shortStarts_16 : decode b_CT_shortStarts 16 = .ok (.invokevirtual 56, 3) ∧ 16 + 3 = 19 := ⟨by decide +kernel, rfl⟩
theorem dCT_shortStarts_19 : decode b_CT_shortStarts 19 = .ok (.invokevirtual 60, 3) ∧ 19 + 3 = 22 := ⟨by decide +kernel, rfl⟩
theorem dCT_shortStarts_22 : decode b_CT_shortStarts 22 = .ok (.invokestatic 64, 3) ∧ 22 + 3 = 25 := ⟨by decide +kernel, rfl⟩
theorem dCT_shortStarts_25 : decode b_CT_shortStarts 25 = .ok (.ifCond .eq (6), 3) ∧ 25 + 3 = 28 ∧ ((25 : Nat) : Int) + (6) = ((31 : Nat) : Int) := ⟨by decide +kernel, rfl, by decide⟩
theorem dCT_shortStarts_28 : decode b_CT_shortStarts 28 = .ok (.iinc 1 (1), 3) ∧ 28 + 3 = 31 := ⟨by decide +kernel, rfl⟩
theorem dCT_shortStarts_31 : decode b_CT_shortStarts 31 = .ok (.iinc 2 (1), 3) ∧ 31 + 3 = 34 := ⟨by decide +kernel, rfl⟩
theorem dCT_shortStarts_34 : decode b_CT_shortStarts 34 = .ok (.goto (-30), 3) ∧ 34 + 3 = 37 ∧ ((34 : Nat) : Int) + (-30) = ((4 : Nat) : Int) := ⟨by decide +kernel, rfl, by decide⟩
theorem dCT_shortStarts_37 : decode b_CT_shortStarts 37 = .ok (.iload_n 1, 1) ∧ 37 + 1 = 38 := ⟨by decide +kernel, rfl⟩
theorem dCT_shortStarts_38 : decode b_CT_shortStarts 38 = .ok (.ireturn, 1) ∧ 38 + 1 = 39 := ⟨by decide +kernel, rfl⟩
theorem dFB_put1_0 : decode b_FB_put1 0 = .ok (.iload_n 1, 1) ∧ 0 + 1 = 1 := ⟨by decide +kernel, rfl⟩
theorem dFB_put1_1 : decode b_FB_put1 1 = .ok (.ifCond .lt (19), 3) ∧ 1 + 3 = 4 ∧ ((1 : Nat) : Int) + (19) = ((20 : Nat) : Int) := ⟨by decide +kernel, rfl, by decide⟩
theorem dFB_put1_4 : decode b_FB_put1 4 = .ok (.iload_n 1, 1) ∧ 4 + 1 = 5 := ⟨by decide +kernel, rfl⟩
theorem dFB_put1_5 : decode b_FB_put1 5 = .ok (.aload_n 0, 1) ∧ 5 + 1 = 6 := ⟨by decide +kernel, rfl⟩
theorem dFB_put1_6 : decode b_FB_put1 6 = .ok (.getfield 15, 3) ∧ 6 + 3 = 9 := ⟨by decide +kernel, rfl⟩
theorem dFB_put1_9 : decode b_FB_put1 9 = .ok (.if_icmp .ge (11), 3) ∧ 9 + 3 = 12 ∧ ((9 : Nat) : Int) + (11) = ((20 : Nat) : Int) := ⟨by decide +kernel, rfl, by decide⟩
theorem dFB_put1_12 : decode b_FB_put1 12 = .ok (.aload_n 0, 1) ∧ 12 + 1 = 13 := ⟨by decide +kernel, rfl⟩
theorem dFB_put1_13 : decode b_FB_put1 13 = .ok (.getfield 9, 3) ∧ 13 + 3 = 16 := ⟨by decide +kernel, rfl⟩
theorem dFB_put1_16 : decode b_FB_put1 16 = .ok (.iload_n 1, 1) ∧ 16 + 1 = 17 := ⟨by decide +kernel, rfl⟩
theorem dFB_put1_17 : decode b_FB_put1 17 = .ok (.iload_n 2, 1) ∧ 17 + 1 = 18 := ⟨by decide +kernel, rfl⟩
theorem dFB_put1_18 : decode b_FB_put1 18 = .ok (.i2b, 1) ∧ 18 + 1 = 19 := ⟨by decide +kernel, rfl⟩
theorem dFB_put1_19 : decode b_FB_put1 19 = .ok (.bastore, 1) ∧ 19 + 1 = 20 := ⟨by decide +kernel, rfl⟩
theorem dFB_put1_20 : decode b_FB_put1 20 = .ok (.return_, 1) ∧ 20 + 1 = 21 := ⟨by decide +kernel, rfl⟩
theorem dWR_putHeader_0 : decode b_WR_putHeader 0 = .ok (.iconst 0, 1) ∧ 0 + 1 = 1 := ⟨by decide +kernel, rfl⟩
theorem dWR_putHeader_1 : decode b_WR_putHeader 1 = .ok (.istore_n 1, 1) ∧ 1 + 1 = 2 := ⟨by decide +kernel, rfl⟩
theorem dWR_putHeader_2 : decode b_WR_putHeader 2 = .ok (.iload_n 1, 1) ∧ 2 + 1 = 3 := ⟨by decide +kernel, rfl⟩
theorem dWR_putHeader_3 : decode b_WR_putHeader 3 = .ok (.getstatic 177, 3) ∧ 3 + 3 = 6 := ⟨by decide +kernel, rfl⟩
theorem dWR_putHeader_6 : decode b_WR_putHeader 6 = .ok (.arraylength, 1) ∧ 6 + 1 = 7 := ⟨by decide +kernel, rfl⟩
theorem dWR_putHeader_7 : decode b_WR_putHeader 7 = .ok (.if_icmp .ge (22), 3) ∧ 7 + 3 = 10 ∧ ((7 : Nat) : Int) + (22) = ((29 : Nat) : Int) := ⟨by decide +kernel, rfl, by decide⟩
theorem dWR_putHeader_10 : decode b_WR_putHeader 10 = .ok (.aload_n 0, 1) ∧ 10 + 1 = 11 := ⟨by decide +kernel, rfl⟩
theorem dWR_putHeader_11 : decode b_WR_putHeader 11 = .ok (.getfield 51, 3) ∧ 11 + 3 = 14 := ⟨by decide +kernel, rfl⟩
theorem dWR_putHeader_14 : decode b_WR_putHeader 14 = .ok (.iload_n 1, 1) ∧ 14 + 1 = 15 := ⟨by decide +kernel, rfl⟩
theorem dWR_putHeader_15 : decode b_WR_putHeader 15 = .ok (.getstatic 177, 3) ∧ 15 + 3 = 18 := ⟨by decide +kernel, rfl⟩
theorem dWR_putHeader_18 : decode b_WR_putHeader 18 = .ok (.iload_n 1, 1) ∧ 18 + 1 = 19 := ⟨by decide +kernel, rfl⟩
theorem dWR_putHeader_19 : decode b_WR_putHeader 19 = .ok (.iaload, 1) ∧ 19 + 1 = 20 := ⟨by decide +kernel, rfl⟩
theorem dWR_putHeader_20 : decode b_WR_putHeader 20 = .ok (.invokevirtual 180, 3) ∧ 20 + 3 = 23 := ⟨by decide +kernel, rfl⟩
theorem dWR_putHeader_23 : decode b_WR_putHeader 23 = .ok (.iinc 1 (1), 3) ∧ 23 + 3 = 26 := ⟨by decide +kernel, rfl⟩
theorem dWR_putHeader_26 : decode b_WR_putHeader 26 = .ok (.goto (-24), 3) ∧ 26 + 3 = 29 ∧ ((26 : Nat) : Int) + (-24) = ((2 : Nat) : Int) := ⟨by decide +kernel, rfl, by decide⟩
theorem dWR_putHeader_29 : decode b_WR_putHeader 29 = .ok (.iconst 4, 1) ∧ 29 + 1 = 30 := ⟨by decide +kernel, rfl⟩
theorem dWR_putHeader_30 : decode b_WR_putHeader 30 = .ok (.istore_n 1, 1) ∧ 30 + 1 = 31 := ⟨by decide +kernel, rfl⟩
theorem dWR_putHeader_31 : decode b_WR_putHeader 31 = .ok (.iload_n 1, 1) ∧ 31 + 1 = 32 := ⟨by decide +kernel, rfl⟩
theorem dWR_putHeader_32 : decode b_WR_putHeader 32 = .ok (.bipush (6), 2) ∧ 32 + 2 = 34 := ⟨by decide +kernel, rfl⟩
theorem dWR_putHeader_34 : decode b_WR_putHeader 34 = .ok (.if_icmp .gt (18), 3) ∧ 34 + 3 = 37 ∧ ((34 : Nat) : Int) + (18) = ((52 : Nat) : Int) := ⟨by decide +kernel, rfl, by decide⟩
theorem dWR_putHeader_37 : decode b_WR_putHeader 37 = .ok (.aload_n 0, 1) ∧ 37 + 1 = 38 := ⟨by decide +kernel, rfl⟩
theorem dWR_putHeader_38 : decode b_WR_putHeader 38 = .ok (.getfield 51, 3) ∧ 38 + 3 = 41 := ⟨by decide +kernel, rfl⟩
theorem dWR_putHeader_41 : decode b_WR_putHeader 41 = .ok (.iload_n 1, 1) ∧ 41 + 1 = 42 := ⟨by decide +kernel, rfl⟩
theorem dWR_putHeader_42 : decode b_WR_putHeader 42 = .ok (.iconst 1, 1) ∧ 42 + 1 = 43 := ⟨by decide +kernel, rfl⟩
theorem dWR_putHeader_43 : decode b_WR_putHeader 43 = .ok (.invokevirtual 180, 3) ∧ 43 + 3 = 46 := ⟨by decide +kernel, rfl⟩
theorem dWR_putHeader_46 : decode b_WR_putHeader 46 = .ok (.iinc 1 (1), 3) ∧ 46 + 3 = 49 := ⟨by decide +kernel, rfl⟩
theorem dWR_putHeader_49 : decode b_WR_putHeader 49 = .ok (.goto (-18), 3) ∧ 49 + 3 = 52 ∧ ((49 : Nat) : Int) + (-18) = ((31 : Nat) : Int) := ⟨by decide +kernel, rfl, by decide⟩
theorem dWR_putHeader_52 : decode b_WR_putHeader 52 = .ok (.aload_n 0, 1) ∧ 52 + 1 = 53 := ⟨by decide +kernel, rfl⟩
theorem dWR_putHeader_53 : decode b_WR_putHeader 53 = .ok (.getfield 51, 3) ∧ 53 + 3 = 56 := ⟨by decide +kernel, rfl⟩
theorem dWR_putHeader_56 : decode b_WR_putHeader 56 = .ok (.bipush (16), 2) ∧ 56 + 2 = 58 := ⟨by decide +kernel, rfl⟩
theorem dWR_putHeader_58 : decode b_WR_putHeader 58 = .ok (.iconst 1, 1) ∧ 58 + 1 = 59 := ⟨by decide +kernel, rfl⟩
theorem dWR_putHeader_59 : decode b_WR_putHeader 59 = .ok (.invokevirtual 183, 3) ∧ 59 + 3 = 62 := ⟨by decide +kernel, rfl⟩
theorem dWR_putHeader_62 : decode b_WR_putHeader 62 = .ok (.aload_n 0, 1) ∧ 62 + 1 = 63 := ⟨by decide +kernel, rfl⟩
theorem dWR_putHeader_63 : decode b_WR_putHeader 63 = .ok (.getfield 51, 3) ∧ 63 + 3 = 66 := ⟨by decide +kernel, rfl⟩
theorem dWR_putHeader_66 : decode b_WR_putHeader 66 = .ok (.bipush (18), 2) ∧ 66 + 2 = 68 := ⟨by decide +kernel, rfl⟩
theorem dWR_putHeader_68 : decode b_WR_putHeader 68 = .ok (.sipush (243), 3) ∧ 68 + 3 = 71 := ⟨by decide +kernel, rfl⟩
theorem dWR_putHeader_71 : decode b_WR_putHeader 71 = .ok (.invokevirtual 183, 3) ∧ 71 + 3 = 74 := ⟨by decide +kernel, rfl⟩
theorem dWR_putHeader_74 : decode b_WR_putHeader 74 = .ok (.aload_n 0, 1) ∧ 74 + 1 = 75 := ⟨by decide +kernel, rfl⟩
theorem dWR_putHeader_75 : decode b_WR_putHeader 75 = .ok (.getfield 51, 3) ∧ 75 + 3 = 78 := ⟨by decide +kernel, rfl⟩
theorem dWR_putHeader_78 : decode b_WR_putHeader 78 = .ok (.bipush (20), 2) ∧ 78 + 2 = 80 := ⟨by decide +kernel, rfl⟩
theorem dWR_putHeader_80 : decode b_WR_putHeader 80 = .ok (.iconst 1, 1) ∧ 80 + 1 = 81 := ⟨by decide +kernel, rfl⟩
theorem dWR_putHeader_81 : decode b_WR_putHeader 81 = .ok (.invokevirtual 186, 3) ∧ 81 + 3 = 84 := ⟨by decide +kernel, rfl⟩
theorem dWR_putHeader_84 : decode b_WR_putHeader 84 = .ok (.aload_n 0, 1) ∧ 84 + 1 = 85 := ⟨by decide +kernel, rfl⟩
theorem dWR_putHeader_85 : decode b_WR_putHeader 85 = .ok (.getfield 51, 3) ∧ 85 + 3 = 88 := ⟨by decide +kernel, rfl⟩
theorem dWR_putHeader_88 : decode b_WR_putHeader 88 = .ok (.bipush (32), 2) ∧ 88 + 2 = 90 := ⟨by decide +kernel, rfl⟩
theorem dWR_putHeader_90 : decode b_WR_putHeader 90 = .ok (.aload_n 0, 1) ∧ 90 + 1 = 91 := ⟨by decide +kernel, rfl⟩
theorem dWR_putHeader_91 : decode b_WR_putHeader 91 = .ok (.getfield 82, 3) ∧ 91 + 3 = 94 := ⟨by decide +kernel, rfl⟩
theorem dWR_putHeader_94 : decode b_WR_putHeader 94 = .ok (.invokevirtual 186, 3) ∧ 94 + 3 = 97 := ⟨by decide +kernel, rfl⟩
theorem dWR_putHeader_97 : decode b_WR_putHeader 97 = .ok (.aload_n 0, 1) ∧ 97 + 1 = 98 := ⟨by decide +kernel, rfl⟩
theorem dWR_putHeader_98 : decode b_WR_putHeader 98 = .ok (.getfield 51, 3) ∧ 98 + 3 = 101 := ⟨by decide +kernel, rfl⟩
theorem dWR_putHeader_101 : decode b_WR_putHeader 101 = .ok (.bipush (36), 2) ∧ 101 + 2 = 103 := ⟨by decide +kernel, rfl⟩
theorem dWR_putHeader_103 : decode b_WR_putHeader 103 = .ok (.aload_n 0, 1) ∧ 103 + 1 = 104 := ⟨by decide +kernel, rfl⟩
theorem dWR_putHeader_104 : decode b_WR_putHeader 104 = .ok (.getfield 47, 3) ∧ 104 + 3 = 107 := ⟨by decide +kernel, rfl⟩
theorem dWR_putHeader_107 : decode b_WR_putHeader 107 = .ok (.invokevirtual 189, 3) ∧ 107 + 3 = 110 := ⟨by decide +kernel, rfl⟩
theorem dWR_putHeader_110 : decode b_WR_putHeader 110 = .ok (.ifCond .le (7), 3) ∧ 110 + 3 = 113 ∧ ((110 : Nat) : Int) + (7) = ((117 : Nat) : Int) := ⟨by decide +kernel, rfl, by decide⟩
theorem dWR_putHeader_113 : decode b_WR_putHeader 113 = .ok (.iconst 1, 1) ∧ 113 + 1 = 114 := ⟨by decide +kernel, rfl⟩
theorem dWR_putHeader_114 : decode b_WR_putHeader 114 = .ok (.goto (4), 3) ∧ 114 + 3 = 117 ∧ ((114 : Nat) : Int) + (4) = ((118 : Nat) : Int) := ⟨by decide +kernel, rfl, by decide⟩
theorem dWR_putHeader_117 : decode b_WR_putHeader 117 = .ok (.iconst 0, 1) ∧ 117 + 1 = 118 := ⟨by decide +kernel, rfl⟩
theorem dWR_putHeader_118 : decode b_WR_putHeader 118 = .ok (.invokevirtual 186, 3) ∧ 118 + 3 = 121 := ⟨by decide +kernel, rfl⟩
theorem dWR_putHeader_121 : decode b_WR_putHeader 121 = .ok (.aload_n 0, 1) ∧ 121 + 1 = 122 := ⟨by decide +kernel, rfl⟩
theorem dWR_putHeader_122 : decode b_WR_putHeader 122 = .ok (.getfield 51, 3) ∧ 122 + 3 = 125 := ⟨by decide +kernel, rfl⟩
theorem dWR_putHeader_125 : decode b_WR_putHeader 125 = .ok (.bipush (40), 2) ∧ 125 + 2 = 127 := ⟨by decide +kernel, rfl⟩
theorem dWR_putHeader_127 : decode b_WR_putHeader 127 = .ok (.bipush (52), 2) ∧ 127 + 2 = 129 := ⟨by decide +kernel, rfl⟩
theorem dWR_putHeader_129 : decode b_WR_putHeader 129 = .ok (.invokevirtual 183, 3) ∧ 129 + 3 = 132 := ⟨by decide +kernel, rfl⟩
theorem dWR_putHeader_132 : decode b_WR_putHeader 132 = .ok (.aload_n 0, 1) ∧ 132 + 1 = 133 := ⟨by decide +kernel, rfl⟩
theorem dWR_putHeader_133 : decode b_WR_putHeader 133 = .ok (.getfield 51, 3) ∧ 133 + 3 = 136 := ⟨by decide +kernel, rfl⟩
theorem dWR_putHeader_136 : decode b_WR_putHeader 136 = .ok (.bipush (46), 2) ∧ 136 + 2 = 138 := ⟨by decide +kernel, rfl⟩
theorem dWR_putHeader_138 : decode b_WR_putHeader 138 = .ok (.bipush (40), 2) ∧ 138 + 2 = 140 := ⟨by decide +kernel, rfl⟩
theorem dWR_putHeader_140 : decode b_WR_putHeader 140 = .ok (.invokevirtual 183, 3) ∧ 140 + 3 = 143 := ⟨by decide +kernel, rfl⟩
theorem dWR_putHeader_143 : decode b_WR_putHeader 143 = .ok (.aload_n 0, 1) ∧ 143 + 1 = 144 := ⟨by decide +kernel, rfl⟩
theorem dWR_putHeader_144 : decode b_WR_putHeader 144 = .ok (.getfield 51, 3) ∧ 144 + 3 = 147 := ⟨by decide +kernel, rfl⟩
theorem dWR_putHeader_147 : decode b_WR_putHeader 147 = .ok (.bipush (48), 2) ∧ 147 + 2 = 149 := ⟨by decide +kernel, rfl⟩
theorem dWR_putHeader_149 : decode b_WR_putHeader 149 = .ok (.aload_n 0, 1) ∧ 149 + 1 = 150 := ⟨by decide +kernel, rfl⟩
theorem dWR_putHeader_150 : decode b_WR_putHeader 150 = .ok (.getfield 86, 3) ∧ 150 + 3 = 153 := ⟨by decide +kernel, rfl⟩
theorem dWR_putHeader_153 : decode b_WR_putHeader 153 = .ok (.invokevirtual 183, 3) ∧ 153 + 3 = 156 := ⟨by decide +kernel, rfl⟩
theorem dWR_putHeader_156 : decode b_WR_putHeader 156 = .ok (.aload_n 0, 1) ∧ 156 + 1 = 157 := ⟨by decide +kernel, rfl⟩
theorem dWR_putHeader_157 : decode b_WR_putHeader 157 = .ok (.getfield 51, 3) ∧ 157 + 3 = 160 := ⟨by decide +kernel, rfl⟩
theorem dWR_putHeader_160 : decode b_WR_putHeader 160 = .ok (.bipush (50), 2) ∧ 160 + 2 = 162 := ⟨by decide +kernel, rfl⟩
theorem dWR_putHeader_162 : decode b_WR_putHeader 162 = .ok (.aload_n 0, 1) ∧ 162 + 1 = 163 := ⟨by decide +kernel, rfl⟩
theorem dWR_putHeader_163 : decode b_WR_putHeader 163 = .ok (.getfield 25, 3) ∧ 163 + 3 = 166 := ⟨by decide +kernel, rfl⟩
theorem dWR_putHeader_166 : decode b_WR_putHeader 166 = .ok (.bipush (10), 2) ∧ 166 + 2 = 168 := ⟨by decide +kernel, rfl⟩
theorem dWR_putHeader_168 : decode b_WR_putHeader 168 = .ok (.iaload, 1) ∧ 168 + 1 = 169 := ⟨by decide +kernel, rfl⟩
theorem dWR_putHeader_169 : decode b_WR_putHeader 169 = .ok (.invokevirtual 183, 3) ∧ 169 + 3 = 172 := ⟨by decide +kernel, rfl⟩
theorem dWR_putHeader_172 : decode b_WR_putHeader 172 = .ok (.return_, 1) ∧ 172 + 1 = 173 := ⟨by decide +kernel, rfl⟩
theorem dFB_copyIn_0 : decode b_FB_copyIn 0 = .ok (.iload 4, 2) ∧ 0 + 2 = 2 := ⟨by decide +kernel, rfl⟩
theorem dFB_copyIn_2 : decode b_FB_copyIn 2 = .ok (.ifCond .le (43), 3) ∧ 2 + 3 = 5 ∧ ((2 : Nat) : Int) + (43) = ((45 : Nat) : Int) := ⟨by decide +kernel, rfl, by decide⟩
theorem dFB_copyIn_5 : decode b_FB_copyIn 5 = .ok (.iload_n 2, 1) ∧ 5 + 1 = 6 := ⟨by decide +kernel, rfl⟩
theorem dFB_copyIn_6 : decode b_FB_copyIn 6 = .ok (.ifCond .lt (39), 3) ∧ 6 + 3 = 9 ∧ ((6 : Nat) : Int) + (39) = ((45 : Nat) : Int) := ⟨by decide +kernel, rfl, by decide⟩
theorem dFB_copyIn_9 : decode b_FB_copyIn 9 = .ok (.iload_n 2, 1) ∧ 9 + 1 = 10 := ⟨by decide +kernel, rfl⟩
theorem dFB_copyIn_10 : decode b_FB_copyIn 10 = .ok (.aload_n 1, 1) ∧ 10 + 1 = 11 := ⟨by decide +kernel, rfl⟩
theorem dFB_copyIn_11 : decode b_FB_copyIn 11 = .ok (.arraylength, 1) ∧ 11 + 1 = 12 := ⟨by decide +kernel, rfl⟩
theorem dFB_copyIn_12 : decode b_FB_copyIn 12 = .ok (.iload 4, 2) ∧ 12 + 2 = 14 := ⟨by decide +kernel, rfl⟩
theorem dFB_copyIn_14 : decode b_FB_copyIn 14 = .ok (.isub, 1) ∧ 14 + 1 = 15 := ⟨by decide +kernel, rfl⟩
theorem dFB_copyIn_15 : decode b_FB_copyIn 15 = .ok (.if_icmp .gt (30), 3) ∧ 15 + 3 = 18 ∧ ((15 : Nat) : Int) + (30) = ((45 : Nat) : Int) := ⟨by decide +kernel, rfl, by decide⟩
theorem dFB_copyIn_18 : decode b_FB_copyIn 18 = .ok (.iload_n 3, 1) ∧ 18 + 1 = 19 := ⟨by decide +kernel, rfl⟩
theorem dFB_copyIn_19 : decode b_FB_copyIn 19 = .ok (.ifCond .lt (26), 3) ∧ 19 + 3 = 22 ∧ ((19 : Nat) : Int) + (26) = ((45 : Nat) : Int) := ⟨by decide +kernel, rfl, by decide⟩
theorem dFB_copyIn_22 : decode b_FB_copyIn 22 = .ok (.iload_n 3, 1) ∧ 22 + 1 = 23 := ⟨by decide +kernel, rfl⟩
theorem dFB_copyIn_23 : decode b_FB_copyIn 23 = .ok (.aload_n 0, 1) ∧ 23 + 1 = 24 := ⟨by decide +kernel, rfl⟩
theorem dFB_copyIn_24 : decode b_FB_copyIn 24 = .ok (.getfield 15, 3) ∧ 24 + 3 = 27 := ⟨by decide +kernel, rfl⟩
theorem dFB_copyIn_27 : decode b_FB_copyIn 27 = .ok (.iload 4, 2) ∧ 27 + 2 = 29 := ⟨by decide +kernel, rfl⟩
theorem dFB_copyIn_29 : decode b_FB_copyIn 29 = .ok (.isub, 1) ∧ 29 + 1 = 30 := ⟨by decide +kernel, rfl⟩
theorem dFB_copyIn_30 : decode b_FB_copyIn 30 = .ok (.if_icmp .gt (15), 3) ∧ 30 + 3 = 33 ∧ ((30 : Nat) : Int) + (15) = ((45 : Nat) : Int) := ⟨by decide +kernel, rfl, by decide⟩
theorem dFB_copyIn_33 : decode b_FB_copyIn 33 = .ok (.aload_n 1, 1) ∧ 33 + 1 = 34 := ⟨by decide +kernel, rfl⟩
theorem dFB_copyIn_34 : decode b_FB_copyIn 34 = .ok (.iload_n 2, 1) ∧ 34 + 1 = 35 := ⟨by decide +kernel, rfl⟩
theorem dFB_copyIn_35 : decode b_FB_copyIn 35 = .ok (.aload_n 0, 1) ∧ 35 + 1 = 36 := ⟨by decide +kernel, rfl⟩
theorem dFB_copyIn_36 : decode b_FB_copyIn 36 = .ok (.getfield 9, 3) ∧ 36 + 3 = 39 := ⟨by decide +kernel, rfl⟩
theorem dFB_copyIn_39 : decode b_FB_copyIn 39 = .ok (.iload_n 3, 1) ∧ 39 + 1 = 40 := ⟨by decide +kernel, rfl⟩
theorem dFB_copyIn_40 : decode b_FB_copyIn 40 = .ok (.iload 4, 2) ∧ 40 + 2 = 42 := ⟨by decide +kernel, rfl⟩
theorem dFB_copyIn_42 : decode b_FB_copyIn 42 = .ok (.invokestatic 25, 3) ∧ 42 + 3 = 45 := ⟨by decide +kernel, rfl⟩
theorem dFB_copyIn_45 : decode b_FB_copyIn 45 = .ok (.return_, 1) ∧ 45 + 1 = 46 := ⟨by decide +kernel, rfl⟩
theorem dWR_whereInFile_0 : decode b_WR_whereInFile 0 = .ok (.iload_n 1, 1) ∧ 0 + 1 = 1 := ⟨by decide +kernel, rfl⟩
theorem dWR_whereInFile_1 : decode b_WR_whereInFile 1 = .ok (.lookupswitch (43) #[(-1, 35), (4, 37), (5, 40)], 35) ∧ True := ⟨by decide +kernel, trivial⟩
theorem dWR_whereInFile_36 : decode b_WR_whereInFile 36 = .ok (.iconst 0, 1) ∧ 36 + 1 = 37 := ⟨by decide +kernel, rfl⟩
theorem dWR_whereInFile_37 : decode b_WR_whereInFile 37 = .ok (.ireturn, 1) ∧ 37 + 1 = 38 := ⟨by decide +kernel, rfl⟩
theorem dWR_whereInFile_38 : decode b_WR_whereInFile 38 = .ok (.ldc 220, 2) ∧ 38 + 2 = 40 := ⟨by decide +kernel, rfl⟩
theorem dWR_whereInFile_40 : decode b_WR_whereInFile 40 = .ok (.ireturn, 1) ∧ 40 + 1 = 41 := ⟨by decide +kernel, rfl⟩
theorem dWR_whereInFile_41 : decode b_WR_whereInFile 41 = .ok (.ldc 221, 2) ∧ 41 + 2 = 43 := ⟨by decide +kernel, rfl⟩
theorem dWR_whereInFile_43 : decode b_WR_whereInFile 43 = .ok (.ireturn, 1) ∧ 43 + 1 = 44 := ⟨by decide +kernel, rfl⟩
theorem dWR_whereInFile_44 : decode b_WR_whereInFile 44 = .ok (.iload_n 1, 1) ∧ 44 + 1 = 45 := ⟨by decide +kernel, rfl⟩
theorem dWR_whereInFile_45 : decode b_WR_whereInFile 45 = .ok (.ifCond .lt (17), 3) ∧ 45 + 3 = 48 ∧ ((45 : Nat) : Int) + (17) = ((62 : Nat) : Int) := ⟨by decide +kernel, rfl, by decide⟩
theorem dWR_whereInFile_48 : decode b_WR_whereInFile 48 = .ok (.iload_n 1, 1) ∧ 48 + 1 = 49 := ⟨by decide +kernel, rfl⟩
theorem dWR_whereInFile_49 : decode b_WR_whereInFile 49 = .ok (.iconst 3, 1) ∧ 49 + 1 = 50 := ⟨by decide +kernel, rfl⟩
theorem dWR_whereInFile_50 : decode b_WR_whereInFile 50 = .ok (.if_icmp .gt (12), 3) ∧ 50 + 3 = 53 ∧ ((50 : Nat) : Int) + (12) = ((62 : Nat) : Int) := ⟨by decide +kernel, rfl, by decide⟩
theorem dWR_whereInFile_53 : decode b_WR_whereInFile 53 = .ok (.aload_n 0, 1) ∧ 53 + 1 = 54 := ⟨by decide +kernel, rfl⟩
theorem dWR_whereInFile_54 : decode b_WR_whereInFile 54 = .ok (.getfield 25, 3) ∧ 54 + 3 = 57 := ⟨by decide +kernel, rfl⟩
theorem dWR_whereInFile_57 : decode b_WR_whereInFile 57 = .ok (.iload_n 1, 1) ∧ 57 + 1 = 58 := ⟨by decide +kernel, rfl⟩
theorem dWR_whereInFile_58 : decode b_WR_whereInFile 58 = .ok (.iaload, 1) ∧ 58 + 1 = 59 := ⟨by decide +kernel, rfl⟩
theorem dWR_whereInFile_59 : decode b_WR_whereInFile 59 = .ok (.goto (4), 3) ∧ 59 + 3 = 62 ∧ ((59 : Nat) : Int) + (4) = ((63 : Nat) : Int) := ⟨by decide +kernel, rfl, by decide⟩
theorem dWR_whereInFile_62 : decode b_WR_whereInFile 62 = .ok (.iconst 0, 1) ∧ 62 + 1 = 63 := ⟨by decide +kernel, rfl⟩
theorem dWR_whereInFile_63 : decode b_WR_whereInFile 63 = .ok (.ireturn, 1) ∧ 63 + 1 = 64 := ⟨by decide +kernel, rfl⟩
theorem dWR_putSymbol_0 : decode b_WR_putSymbol 0 = .ok (.aload_n 0, 1) ∧ 0 + 1 = 1 := ⟨by decide +kernel, rfl⟩
theorem dWR_putSymbol_1 : decode b_WR_putSymbol 1 = .ok (.getfield 32, 3) ∧ 1 + 3 = 4 := ⟨by decide +kernel, rfl⟩
theorem dWR_putSymbol_4 : decode b_WR_putSymbol 4 = .ok (.bipush (8), 2) ∧ 4 + 2 = 6 := ⟨by decide +kernel, rfl⟩
theorem dWR_putSymbol_6 : decode b_WR_putSymbol 6 = .ok (.iaload, 1) ∧ 6 + 1 = 7 := ⟨by decide +kernel, rfl⟩
theorem dWR_putSymbol_7 : decode b_WR_putSymbol 7 = .ok (.bipush (16), 2) ∧ 7 + 2 = 9 := ⟨by decide +kernel, rfl⟩
theorem dWR_putSymbol_9 : decode b_WR_putSymbol 9 = .ok (.iload_n 1, 1) ∧ 9 + 1 = 10 := ⟨by decide +kernel, rfl⟩
theorem dWR_putSymbol_10 : decode b_WR_putSymbol 10 = .ok (.iconst 1, 1) ∧ 10 + 1 = 11 := ⟨by decide +kernel, rfl⟩
theorem dWR_putSymbol_11 : decode b_WR_putSymbol 11 = .ok (.iadd, 1) ∧ 11 + 1 = 12 := ⟨by decide +kernel, rfl⟩
theorem dWR_putSymbol_12 : decode b_WR_putSymbol 12 = .ok (.imul, 1) ∧ 12 + 1 = 13 := ⟨by decide +kernel, rfl⟩
theorem dWR_putSymbol_13 : decode b_WR_putSymbol 13 = .ok (.iadd, 1) ∧ 13 + 1 = 14 := ⟨by decide +kernel, rfl⟩
theorem dWR_putSymbol_14 : decode b_WR_putSymbol 14 = .ok (.istore_n 2, 1) ∧ 14 + 1 = 15 := ⟨by decide +kernel, rfl⟩
theorem dWR_putSymbol_15 : decode b_WR_putSymbol 15 = .ok (.aload_n 0, 1) ∧ 15 + 1 = 16 := ⟨by decide +kernel, rfl⟩
theorem dWR_putSymbol_16 : decode b_WR_putSymbol 16 = .ok (.getfield 38, 3) ∧ 16 + 3 = 19 := ⟨by decide +kernel, rfl⟩
theorem dWR_putSymbol_19 : decode b_WR_putSymbol 19 = .ok (.iload_n 1, 1) ∧ 19 + 1 = 20 := ⟨by decide +kernel, rfl⟩
theorem dWR_putSymbol_20 : decode b_WR_putSymbol 20 = .ok (.iaload, 1) ∧ 20 + 1 = 21 := ⟨by decide +kernel, rfl⟩
theorem dWR_putSymbol_21 : decode b_WR_putSymbol 21 = .ok (.istore_n 3, 1) ∧ 21 + 1 = 22 := ⟨by decide +kernel, rfl⟩
theorem dWR_putSymbol_22 : decode b_WR_putSymbol 22 = .ok (.aload_n 0, 1) ∧ 22 + 1 = 23 := ⟨by decide +kernel, rfl⟩
theorem dWR_putSymbol_23 : decode b_WR_putSymbol 23 = .ok (.getfield 51, 3) ∧ 23 + 3 = 26 := ⟨by decide +kernel, rfl⟩
theorem dWR_putSymbol_26 : decode b_WR_putSymbol 26 = .ok (.iload_n 2, 1) ∧ 26 + 1 = 27 := ⟨by decide +kernel, rfl⟩
theorem dWR_putSymbol_27 : decode b_WR_putSymbol 27 = .ok (.aload_n 0, 1) ∧ 27 + 1 = 28 := ⟨by decide +kernel, rfl⟩
theorem dWR_putSymbol_28 : decode b_WR_putSymbol 28 = .ok (.getfield 44, 3) ∧ 28 + 3 = 31 := ⟨by decide +kernel, rfl⟩
theorem dWR_putSymbol_31 : decode b_WR_putSymbol 31 = .ok (.iload_n 1, 1) ∧ 31 + 1 = 32 := ⟨by decide +kernel, rfl⟩
theorem dWR_putSymbol_32 : decode b_WR_putSymbol 32 = .ok (.iaload, 1) ∧ 32 + 1 = 33 := ⟨by decide +kernel, rfl⟩
theorem dWR_putSymbol_33 : decode b_WR_putSymbol 33 = .ok (.invokevirtual 186, 3) ∧ 33 + 3 = 36 := ⟨by decide +kernel, rfl⟩
theorem dWR_putSymbol_36 : decode b_WR_putSymbol 36 = .ok (.aload_n 0, 1) ∧ 36 + 1 = 37 := ⟨by decide +kernel, rfl⟩
theorem dWR_putSymbol_37 : decode b_WR_putSymbol 37 = .ok (.getfield 51, 3) ∧ 37 + 3 = 40 := ⟨by decide +kernel, rfl⟩
theorem dWR_putSymbol_40 : decode b_WR_putSymbol 40 = .ok (.iload_n 2, 1) ∧ 40 + 1 = 41 := ⟨by decide +kernel, rfl⟩
theorem dWR_putSymbol_41 : decode b_WR_putSymbol 41 = .ok (.iconst 4, 1) ∧ 41 + 1 = 42 := ⟨by decide +kernel, rfl⟩
theorem dWR_putSymbol_42 : decode b_WR_putSymbol 42 = .ok (.iadd, 1) ∧ 42 + 1 = 43 := ⟨by decide +kernel, rfl⟩
theorem dWR_putSymbol_43 : decode b_WR_putSymbol 43 = .ok (.aload_n 0, 1) ∧ 43 + 1 = 44 := ⟨by decide +kernel, rfl⟩
theorem dWR_putSymbol_44 : decode b_WR_putSymbol 44 = .ok (.getfield 47, 3) ∧ 44 + 3 = 47 := ⟨by decide +kernel, rfl⟩
theorem dWR_putSymbol_47 : decode b_WR_putSymbol 47 = .ok (.iload_n 3, 1) ∧ 47 + 1 = 48 := ⟨by decide +kernel, rfl⟩
theorem dWR_putSymbol_48 : decode b_WR_putSymbol 48 = .ok (.iconst 1, 1) ∧ 48 + 1 = 49 := ⟨by decide +kernel, rfl⟩
theorem dWR_putSymbol_49 : decode b_WR_putSymbol 49 = .ok (.invokevirtual 107, 3) ∧ 49 + 3 = 52 := ⟨by decide +kernel, rfl⟩
theorem dWR_putSymbol_52 : decode b_WR_putSymbol 52 = .ok (.invokevirtual 186, 3) ∧ 52 + 3 = 55 := ⟨by decide +kernel, rfl⟩
theorem dWR_putSymbol_55 : decode b_WR_putSymbol 55 = .ok (.aload_n 0, 1) ∧ 55 + 1 = 56 := ⟨by decide +kernel, rfl⟩
theorem dWR_putSymbol_56 : decode b_WR_putSymbol 56 = .ok (.getfield 51, 3) ∧ 56 + 3 = 59 := ⟨by decide +kernel, rfl⟩
theorem dWR_putSymbol_59 : decode b_WR_putSymbol 59 = .ok (.iload_n 2, 1) ∧ 59 + 1 = 60 := ⟨by decide +kernel, rfl⟩
theorem dWR_putSymbol_60 : decode b_WR_putSymbol 60 = .ok (.bipush (8), 2) ∧ 60 + 2 = 62 := ⟨by decide +kernel, rfl⟩
theorem dWR_putSymbol_62 : decode b_WR_putSymbol 62 = .ok (.iadd, 1) ∧ 62 + 1 = 63 := ⟨by decide +kernel, rfl⟩
theorem dWR_putSymbol_63 : decode b_WR_putSymbol 63 = .ok (.aload_n 0, 1) ∧ 63 + 1 = 64 := ⟨by decide +kernel, rfl⟩
theorem dWR_putSymbol_64 : decode b_WR_putSymbol 64 = .ok (.getfield 47, 3) ∧ 64 + 3 = 67 := ⟨by decide +kernel, rfl⟩
theorem dWR_putSymbol_67 : decode b_WR_putSymbol 67 = .ok (.iload_n 3, 1) ∧ 67 + 1 = 68 := ⟨by decide +kernel, rfl⟩
theorem dWR_putSymbol_68 : decode b_WR_putSymbol 68 = .ok (.iconst 2, 1) ∧ 68 + 1 = 69 := ⟨by decide +kernel, rfl⟩
theorem dWR_putSymbol_69 : decode b_WR_putSymbol 69 = .ok (.invokevirtual 107, 3) ∧ 69 + 3 = 72 := ⟨by decide +kernel, rfl⟩
theorem dWR_putSymbol_72 : decode b_WR_putSymbol 72 = .ok (.invokevirtual 186, 3) ∧ 72 + 3 = 75 := ⟨by decide +kernel, rfl⟩
theorem dWR_putSymbol_75 : decode b_WR_putSymbol 75 = .ok (.aload_n 0, 1) ∧ 75 + 1 = 76 := ⟨by decide +kernel, rfl⟩
theorem dWR_putSymbol_76 : decode b_WR_putSymbol 76 = .ok (.getfield 51, 3) ∧ 76 + 3 = 79 := ⟨by decide +kernel, rfl⟩
theorem dWR_putSymbol_79 : decode b_WR_putSymbol 79 = .ok (.iload_n 2, 1) ∧ 79 + 1 = 80 := ⟨by decide +kernel, rfl⟩
theorem dWR_putSymbol_80 : decode b_WR_putSymbol 80 = .ok (.bipush (12), 2) ∧ 80 + 2 = 82 := ⟨by decide +kernel, rfl⟩
theorem dWR_putSymbol_82 : decode b_WR_putSymbol 82 = .ok (.iadd, 1) ∧ 82 + 1 = 83 := ⟨by decide +kernel, rfl⟩
theorem dWR_putSymbol_83 : decode b_WR_putSymbol 83 = .ok (.bipush (16), 2) ∧ 83 + 2 = 85 := ⟨by decide +kernel, rfl⟩
theorem dWR_putSymbol_85 : decode b_WR_putSymbol 85 = .ok (.aload_n 0, 1) ∧ 85 + 1 = 86 := ⟨by decide +kernel, rfl⟩
theorem dWR_putSymbol_86 : decode b_WR_putSymbol 86 = .ok (.getfield 47, 3) ∧ 86 + 3 = 89 := ⟨by decide +kernel, rfl⟩
theorem dWR_putSymbol_89 : decode b_WR_putSymbol 89 = .ok (.iload_n 3, 1) ∧ 89 + 1 = 90 := ⟨by decide +kernel, rfl⟩
theorem dWR_putSymbol_90 : decode b_WR_putSymbol 90 = .ok (.iconst 3, 1) ∧ 90 + 1 = 91 := ⟨by decide +kernel, rfl⟩
theorem dWR_putSymbol_91 : decode b_WR_putSymbol 91 = .ok (.invokevirtual 107, 3) ∧ 91 + 3 = 94 := ⟨by decide +kernel, rfl⟩
theorem dWR_putSymbol_94 : decode b_WR_putSymbol 94 = .ok (.imul, 1) ∧ 94 + 1 = 95 := ⟨by decide +kernel, rfl⟩
theorem dWR_putSymbol_95 : decode b_WR_putSymbol 95 = .ok (.aload_n 0, 1) ∧ 95 + 1 = 96 := ⟨by decide +kernel, rfl⟩
theorem dWR_putSymbol_96 : decode b_WR_putSymbol 96 = .ok (.getfield 47, 3) ∧ 96 + 3 = 99 := ⟨by decide +kernel, rfl⟩
theorem dWR_putSymbol_99 : decode b_WR_putSymbol 99 = .ok (.iload_n 3, 1) ∧ 99 + 1 = 100 := ⟨by decide +kernel, rfl⟩
theorem dWR_putSymbol_100 : decode b_WR_putSymbol 100 = .ok (.iconst 4, 1) ∧ 100 + 1 = 101 := ⟨by decide +kernel, rfl⟩
theorem dWR_putSymbol_101 : decode b_WR_putSymbol 101 = .ok (.invokevirtual 107, 3) ∧ 101 + 3 = 104 := ⟨by decide +kernel, rfl⟩
theorem dWR_putSymbol_104 : decode b_WR_putSymbol 104 = .ok (.iadd, 1) ∧ 104 + 1 = 105 := ⟨by decide +kernel, rfl⟩
theorem dWR_putSymbol_105 : decode b_WR_putSymbol 105 = .ok (.invokevirtual 180, 3) ∧ 105 + 3 = 108 := ⟨by decide +kernel, rfl⟩
theorem dWR_putSymbol_108 : decode b_WR_putSymbol 108 = .ok (.aload_n 0, 1) ∧ 108 + 1 = 109 := ⟨by decide +kernel, rfl⟩
theorem dWR_putSymbol_109 : decode b_WR_putSymbol 109 = .ok (.getfield 51, 3) ∧ 109 + 3 = 112 := ⟨by decide +kernel, rfl⟩
theorem dWR_putSymbol_112 : decode b_WR_putSymbol 112 = .ok (.iload_n 2, 1) ∧ 112 + 1 = 113 := ⟨by decide +kernel, rfl⟩
theorem dWR_putSymbol_113 : decode b_WR_putSymbol 113 = .ok (.bipush (14), 2) ∧ 113 + 2 = 115 := ⟨by decide +kernel, rfl⟩
theorem dWR_putSymbol_115 : decode b_WR_putSymbol 115 = .ok (.iadd, 1) ∧ 115 + 1 = 116 := ⟨by decide +kernel, rfl⟩
theorem dWR_putSymbol_116 : decode b_WR_putSymbol 116 = .ok (.aload_n 0, 1) ∧ 116 + 1 = 117 := ⟨by decide +kernel, rfl⟩
theorem dWR_putSymbol_117 : decode b_WR_putSymbol 117 = .ok (.aload_n 0, 1) ∧ 117 + 1 = 118 := ⟨by decide +kernel, rfl⟩
theorem dWR_putSymbol_118 : decode b_WR_putSymbol 118 = .ok (.getfield 47, 3) ∧ 118 + 3 = 121 := ⟨by decide +kernel, rfl⟩
theorem dWR_putSymbol_121 : decode b_WR_putSymbol 121 = .ok (.iload_n 3, 1) ∧ 121 + 1 = 122 := ⟨by decide +kernel, rfl⟩
theorem dWR_putSymbol_122 : decode b_WR_putSymbol 122 = .ok (.iconst 0, 1) ∧ 122 + 1 = 123 := ⟨by decide +kernel, rfl⟩
theorem dWR_putSymbol_123 : decode b_WR_putSymbol 123 = .ok (.invokevirtual 107, 3) ∧ 123 + 3 = 126 := ⟨by decide +kernel, rfl⟩
theorem dWR_putSymbol_126 : decode b_WR_putSymbol 126 = .ok (.invokevirtual 217, 3) ∧ 126 + 3 = 129 := ⟨by decide +kernel, rfl⟩
theorem dWR_putSymbol_129 : decode b_WR_putSymbol 129 = .ok (.invokevirtual 183, 3) ∧ 129 + 3 = 132 := ⟨by decide +kernel, rfl⟩
theorem dWR_putSymbol_132 : decode b_WR_putSymbol 132 = .ok (.return_, 1) ∧ 132 + 1 = 133 := ⟨by decide +kernel, rfl⟩
theorem dWR_putRelocations_0 : decode b_WR_putRelocations 0 = .ok (.aload_n 0, 1) ∧ 0 + 1 = 1 := ⟨by decide +kernel, rfl⟩
theorem dWR_putRelocations_1 : decode b_WR_putRelocations 1 = .ok (.getfield 32, 3) ∧ 1 + 3 = 4 := ⟨by decide +kernel, rfl⟩
theorem dWR_putRelocations_4 : decode b_WR_putRelocations 4 = .ok (.iconst 5, 1) ∧ 4 + 1 = 5 := ⟨by decide +kernel, rfl⟩
theorem dWR_putRelocations_5 : decode b_WR_putRelocations 5 = .ok (.iload_n 1, 1) ∧ 5 + 1 = 6 := ⟨by decide +kernel, rfl⟩
theorem dWR_putRelocations_6 : decode b_WR_putRelocations 6 = .ok (.iadd, 1) ∧ 6 + 1 = 7 := ⟨by decide +kernel, rfl⟩
theorem dWR_putRelocations_7 : decode b_WR_putRelocations 7 = .ok (.iaload, 1) ∧ 7 + 1 = 8 := ⟨by decide +kernel, rfl⟩
theorem dWR_putRelocations_8 : decode b_WR_putRelocations 8 = .ok (.istore_n 2, 1) ∧ 8 + 1 = 9 := ⟨by decide +kernel, rfl⟩
theorem dWR_putRelocations_9 : decode b_WR_putRelocations 9 = .ok (.iconst 0, 1) ∧ 9 + 1 = 10 := ⟨by decide +kernel, rfl⟩
theorem dWR_putRelocations_10 : decode b_WR_putRelocations 10 = .ok (.istore_n 3, 1) ∧ 10 + 1 = 11 := ⟨by decide +kernel, rfl⟩
theorem dWR_putRelocations_11 : decode b_WR_putRelocations 11 = .ok (.iload_n 3, 1) ∧ 11 + 1 = 12 := ⟨by decide +kernel, rfl⟩
theorem dWR_putRelocations_12 : decode b_WR_putRelocations 12 = .ok (.aload_n 0, 1) ∧ 12 + 1 = 13 := ⟨by decide +kernel, rfl⟩
theorem dWR_putRelocations_13 : decode b_WR_putRelocations 13 = .ok (.getfield 47, 3) ∧ 13 + 3 = 16 := ⟨by decide +kernel, rfl⟩
theorem dWR_putRelocations_16 : decode b_WR_putRelocations 16 = .ok (.getfield 211, 3) ∧ 16 + 3 = 19 := ⟨by decide +kernel, rfl⟩
theorem dWR_putRelocations_19 : decode b_WR_putRelocations 19 = .ok (.if_icmp .ge (124), 3) ∧ 19 + 3 = 22 ∧ ((19 : Nat) : Int) + (124) = ((143 : Nat) : Int) := ⟨by decide +kernel, rfl, by decide⟩
theorem dWR_putRelocations_22 : decode b_WR_putRelocations 22 = .ok (.aload_n 0, 1) ∧ 22 + 1 = 23 := ⟨by decide +kernel, rfl⟩
theorem dWR_putRelocations_23 : decode b_WR_putRelocations 23 = .ok (.getfield 47, 3) ∧ 23 + 3 = 26 := ⟨by decide +kernel, rfl⟩
theorem dWR_putRelocations_26 : decode b_WR_putRelocations 26 = .ok (.iload_n 3, 1) ∧ 26 + 1 = 27 := ⟨by decide +kernel, rfl⟩
theorem dWR_putRelocations_27 : decode b_WR_putRelocations 27 = .ok (.iconst 0, 1) ∧ 27 + 1 = 28 := ⟨by decide +kernel, rfl⟩
theorem dWR_putRelocations_28 : decode b_WR_putRelocations 28 = .ok (.invokevirtual 214, 3) ∧ 28 + 3 = 31 := ⟨by decide +kernel, rfl⟩
theorem dWR_putRelocations_31 : decode b_WR_putRelocations 31 = .ok (.iload_n 1, 1) ∧ 31 + 1 = 32 := ⟨by decide +kernel, rfl⟩
theorem dWR_putRelocations_32 : decode b_WR_putRelocations 32 = .ok (.if_icmp .ne (105), 3) ∧ 32 + 3 = 35 ∧ ((32 : Nat) : Int) + (105) = ((137 : Nat) : Int) := ⟨by decide +kernel, rfl, by decide⟩
theorem dWR_putRelocations_35 : decode b_WR_putRelocations 35 = .ok (.aload_n 0, 1) ∧ 35 + 1 = 36 := ⟨by decide +kernel, rfl⟩
theorem dWR_putRelocations_36 : decode b_WR_putRelocations 36 = .ok (.getfield 47, 3) ∧ 36 + 3 = 39 := ⟨by decide +kernel, rfl⟩
theorem dWR_putRelocations_39 : decode b_WR_putRelocations 39 = .ok (.iload_n 3, 1) ∧ 39 + 1 = 40 := ⟨by decide +kernel, rfl⟩
theorem dWR_putRelocations_40 : decode b_WR_putRelocations 40 = .ok (.iconst 3, 1) ∧ 40 + 1 = 41 := ⟨by decide +kernel, rfl⟩
theorem dWR_putRelocations_41 : decode b_WR_putRelocations 41 = .ok (.invokevirtual 214, 3) ∧ 41 + 3 = 44 := ⟨by decide +kernel, rfl⟩
theorem dWR_putRelocations_44 : decode b_WR_putRelocations 44 = .ok (.istore 4, 2) ∧ 44 + 2 = 46 := ⟨by decide +kernel, rfl⟩
theorem dWR_putRelocations_46 : decode b_WR_putRelocations 46 = .ok (.iload 4, 2) ∧ 46 + 2 = 48 := ⟨by decide +kernel, rfl⟩
theorem dWR_putRelocations_48 : decode b_WR_putRelocations 48 = .ok (.ifCond .lt (10), 3) ∧ 48 + 3 = 51 ∧ ((48 : Nat) : Int) + (10) = ((58 : Nat) : Int) := ⟨by decide +kernel, rfl, by decide⟩
theorem dWR_putRelocations_51 : decode b_WR_putRelocations 51 = .ok (.iload 4, 2) ∧ 51 + 2 = 53 := ⟨by decide +kernel, rfl⟩
theorem dWR_putRelocations_53 : decode b_WR_putRelocations 53 = .ok (.bipush (100), 2) ∧ 53 + 2 = 55 := ⟨by decide +kernel, rfl⟩
theorem dWR_putRelocations_55 : decode b_WR_putRelocations 55 = .ok (.if_icmp .lt (7), 3) ∧ 55 + 3 = 58 ∧ ((55 : Nat) : Int) + (7) = ((62 : Nat) : Int) := ⟨by decide +kernel, rfl, by decide⟩
theorem dWR_putRelocations_58 : decode b_WR_putRelocations 58 = .ok (.iconst 0, 1) ∧ 58 + 1 = 59 := ⟨by decide +kernel, rfl⟩
theorem dWR_putRelocations_59 : decode b_WR_putRelocations 59 = .ok (.goto (10), 3) ∧ 59 + 3 = 62 ∧ ((59 : Nat) : Int) + (10) = ((69 : Nat) : Int) := ⟨by decide +kernel, rfl, by decide⟩
theorem dWR_putRelocations_62 : decode b_WR_putRelocations 62 = .ok (.aload_n 0, 1) ∧ 62 + 1 = 63 := ⟨by decide +kernel, rfl⟩
theorem dWR_putRelocations_63 : decode b_WR_putRelocations 63 = .ok (.getfield 41, 3) ∧ 63 + 3 = 66 := ⟨by decide +kernel, rfl⟩
theorem dWR_putRelocations_66 : decode b_WR_putRelocations 66 = .ok (.iload 4, 2) ∧ 66 + 2 = 68 := ⟨by decide +kernel, rfl⟩
theorem dWR_putRelocations_68 : decode b_WR_putRelocations 68 = .ok (.iaload, 1) ∧ 68 + 1 = 69 := ⟨by decide +kernel, rfl⟩
theorem dWR_putRelocations_69 : decode b_WR_putRelocations 69 = .ok (.istore 5, 2) ∧ 69 + 2 = 71 := ⟨by decide +kernel, rfl⟩
theorem dWR_putRelocations_71 : decode b_WR_putRelocations 71 = .ok (.aload_n 0, 1) ∧ 71 + 1 = 72 := ⟨by decide +kernel, rfl⟩
theorem dWR_putRelocations_72 : decode b_WR_putRelocations 72 = .ok (.getfield 51, 3) ∧ 72 + 3 = 75 := ⟨by decide +kernel, rfl⟩
theorem dWR_putRelocations_75 : decode b_WR_putRelocations 75 = .ok (.iload_n 2, 1) ∧ 75 + 1 = 76 := ⟨by decide +kernel, rfl⟩
theorem dWR_putRelocations_76 : decode b_WR_putRelocations 76 = .ok (.aload_n 0, 1) ∧ 76 + 1 = 77 := ⟨by decide +kernel, rfl⟩
theorem dWR_putRelocations_77 : decode b_WR_putRelocations 77 = .ok (.getfield 47, 3) ∧ 77 + 3 = 80 := ⟨by decide +kernel, rfl⟩
theorem dWR_putRelocations_80 : decode b_WR_putRelocations 80 = .ok (.iload_n 3, 1) ∧ 80 + 1 = 81 := ⟨by decide +kernel, rfl⟩
theorem dWR_putRelocations_81 : decode b_WR_putRelocations 81 = .ok (.iconst 1, 1) ∧ 81 + 1 = 82 := ⟨by decide +kernel, rfl⟩
theorem dWR_putRelocations_82 : decode b_WR_putRelocations 82 = .ok (.invokevirtual 214, 3) ∧ 82 + 3 = 85 := ⟨by decide +kernel, rfl⟩
theorem dWR_putRelocations_85 : decode b_WR_putRelocations 85 = .ok (.invokevirtual 186, 3) ∧ 85 + 3 = 88 := ⟨by decide +kernel, rfl⟩
theorem dWR_putRelocations_88 : decode b_WR_putRelocations 88 = .ok (.aload_n 0, 1) ∧ 88 + 1 = 89 := ⟨by decide +kernel, rfl⟩
theorem dWR_putRelocations_89 : decode b_WR_putRelocations 89 = .ok (.getfield 51, 3) ∧ 89 + 3 = 92 := ⟨by decide +kernel, rfl⟩
theorem dWR_putRelocations_92 : decode b_WR_putRelocations 92 = .ok (.iload_n 2, 1) ∧ 92 + 1 = 93 := ⟨by decide +kernel, rfl⟩
theorem dWR_putRelocations_93 : decode b_WR_putRelocations 93 = .ok (.iconst 4, 1) ∧ 93 + 1 = 94 := ⟨by decide +kernel, rfl⟩
theorem dWR_putRelocations_94 : decode b_WR_putRelocations 94 = .ok (.iadd, 1) ∧ 94 + 1 = 95 := ⟨by decide +kernel, rfl⟩
theorem dWR_putRelocations_95 : decode b_WR_putRelocations 95 = .ok (.sipush (256), 3) ∧ 95 + 3 = 98 := ⟨by decide +kernel, rfl⟩
theorem dWR_putRelocations_98 : decode b_WR_putRelocations 98 = .ok (.iload 5, 2) ∧ 98 + 2 = 100 := ⟨by decide +kernel, rfl⟩
theorem dWR_putRelocations_100 : decode b_WR_putRelocations 100 = .ok (.imul, 1) ∧ 100 + 1 = 101 := ⟨by decide +kernel, rfl⟩
theorem dWR_putRelocations_101 : decode b_WR_putRelocations 101 = .ok (.aload_n 0, 1) ∧ 101 + 1 = 102 := ⟨by decide +kernel, rfl⟩
theorem dWR_putRelocations_102 : decode b_WR_putRelocations 102 = .ok (.getfield 47, 3) ∧ 102 + 3 = 105 := ⟨by decide +kernel, rfl⟩
theorem dWR_putRelocations_105 : decode b_WR_putRelocations 105 = .ok (.iload_n 3, 1) ∧ 105 + 1 = 106 := ⟨by decide +kernel, rfl⟩
theorem dWR_putRelocations_106 : decode b_WR_putRelocations 106 = .ok (.iconst 2, 1) ∧ 106 + 1 = 107 := ⟨by decide +kernel, rfl⟩
theorem dWR_putRelocations_107 : decode b_WR_putRelocations 107 = .ok (.invokevirtual 214, 3) ∧ 107 + 3 = 110 := ⟨by decide +kernel, rfl⟩
theorem dWR_putRelocations_110 : decode b_WR_putRelocations 110 = .ok (.iadd, 1) ∧ 110 + 1 = 111 := ⟨by decide +kernel, rfl⟩
theorem dWR_putRelocations_111 : decode b_WR_putRelocations 111 = .ok (.invokevirtual 186, 3) ∧ 111 + 3 = 114 := ⟨by decide +kernel, rfl⟩
theorem dWR_putRelocations_114 : decode b_WR_putRelocations 114 = .ok (.aload_n 0, 1) ∧ 114 + 1 = 115 := ⟨by decide +kernel, rfl⟩
theorem dWR_putRelocations_115 : decode b_WR_putRelocations 115 = .ok (.getfield 51, 3) ∧ 115 + 3 = 118 := ⟨by decide +kernel, rfl⟩
theorem dWR_putRelocations_118 : decode b_WR_putRelocations 118 = .ok (.iload_n 2, 1) ∧ 118 + 1 = 119 := ⟨by decide +kernel, rfl⟩
theorem dWR_putRelocations_119 : decode b_WR_putRelocations 119 = .ok (.bipush (8), 2) ∧ 119 + 2 = 121 := ⟨by decide +kernel, rfl⟩
theorem dWR_putRelocations_121 : decode b_WR_putRelocations 121 = .ok (.iadd, 1) ∧ 121 + 1 = 122 := ⟨by decide +kernel, rfl⟩
theorem dWR_putRelocations_122 : decode b_WR_putRelocations 122 = .ok (.aload_n 0, 1) ∧ 122 + 1 = 123 := ⟨by decide +kernel, rfl⟩
theorem dWR_putRelocations_123 : decode b_WR_putRelocations 123 = .ok (.getfield 47, 3) ∧ 123 + 3 = 126 := ⟨by decide +kernel, rfl⟩
theorem dWR_putRelocations_126 : decode b_WR_putRelocations 126 = .ok (.iload_n 3, 1) ∧ 126 + 1 = 127 := ⟨by decide +kernel, rfl⟩
theorem dWR_putRelocations_127 : decode b_WR_putRelocations 127 = .ok (.iconst 4, 1) ∧ 127 + 1 = 128 := ⟨by decide +kernel, rfl⟩
theorem dWR_putRelocations_128 : decode b_WR_putRelocations 128 = .ok (.invokevirtual 214, 3) ∧ 128 + 3 = 131 := ⟨by decide +kernel, rfl⟩
theorem dWR_putRelocations_131 : decode b_WR_putRelocations 131 = .ok (.invokevirtual 186, 3) ∧ 131 + 3 = 134 := ⟨by decide +kernel, rfl⟩
theorem dWR_putRelocations_134 : decode b_WR_putRelocations 134 = .ok (.iinc 2 (12), 3) ∧ 134 + 3 = 137 := ⟨by decide +kernel, rfl⟩
theorem dWR_putRelocations_137 : decode b_WR_putRelocations 137 = .ok (.iinc 3 (1), 3) ∧ 137 + 3 = 140 := ⟨by decide +kernel, rfl⟩
theorem dWR_putRelocations_140 : decode b_WR_putRelocations 140 = .ok (.goto (-129), 3) ∧ 140 + 3 = 143 ∧ ((140 : Nat) : Int) + (-129) = ((11 : Nat) : Int) := ⟨by decide +kernel, rfl, by decide⟩
theorem dWR_putRelocations_143 : decode b_WR_putRelocations 143 = .ok (.return_, 1) ∧ 143 + 1 = 144 := ⟨by decide +kernel, rfl⟩
theorem dWR_putParts_0 : decode b_WR_putParts 0 = .ok (.iconst 0, 1) ∧ 0 + 1 = 1 := ⟨by decide +kernel, rfl⟩
theorem dWR_putParts_1 : decode b_WR_putParts 1 = .ok (.istore_n 1, 1) ∧ 1 + 1 = 2 := ⟨by decide +kernel, rfl⟩
theorem dWR_putParts_2 : decode b_WR_putParts 2 = .ok (.iload_n 1, 1) ∧ 2 + 1 = 3 := ⟨by decide +kernel, rfl⟩
theorem dWR_putParts_3 : decode b_WR_putParts 3 = .ok (.iconst 2, 1) ∧ 3 + 1 = 4 := ⟨by decide +kernel, rfl⟩
theorem dWR_putParts_4 : decode b_WR_putParts 4 = .ok (.if_icmp .gt (40), 3) ∧ 4 + 3 = 7 ∧ ((4 : Nat) : Int) + (40) = ((44 : Nat) : Int) := ⟨by decide +kernel, rfl, by decide⟩
theorem dWR_putParts_7 : decode b_WR_putParts 7 = .ok (.aload_n 0, 1) ∧ 7 + 1 = 8 := ⟨by decide +kernel, rfl⟩
theorem dWR_putParts_8 : decode b_WR_putParts 8 = .ok (.getfield 51, 3) ∧ 8 + 3 = 11 := ⟨by decide +kernel, rfl⟩
theorem dWR_putParts_11 : decode b_WR_putParts 11 = .ok (.aload_n 0, 1) ∧ 11 + 1 = 12 := ⟨by decide +kernel, rfl⟩
theorem dWR_putParts_12 : decode b_WR_putParts 12 = .ok (.getfield 47, 3) ∧ 12 + 3 = 15 := ⟨by decide +kernel, rfl⟩
theorem dWR_putParts_15 : decode b_WR_putParts 15 = .ok (.getfield 192, 3) ∧ 15 + 3 = 18 := ⟨by decide +kernel, rfl⟩
theorem dWR_putParts_18 : decode b_WR_putParts 18 = .ok (.iload_n 1, 1) ∧ 18 + 1 = 19 := ⟨by decide +kernel, rfl⟩
theorem dWR_putParts_19 : decode b_WR_putParts 19 = .ok (.sipush (2048), 3) ∧ 19 + 3 = 22 := ⟨by decide +kernel, rfl⟩
theorem dWR_putParts_22 : decode b_WR_putParts 22 = .ok (.imul, 1) ∧ 22 + 1 = 23 := ⟨by decide +kernel, rfl⟩
theorem dWR_putParts_23 : decode b_WR_putParts 23 = .ok (.aload_n 0, 1) ∧ 23 + 1 = 24 := ⟨by decide +kernel, rfl⟩
theorem dWR_putParts_24 : decode b_WR_putParts 24 = .ok (.getfield 32, 3) ∧ 24 + 3 = 27 := ⟨by decide +kernel, rfl⟩
theorem dWR_putParts_27 : decode b_WR_putParts 27 = .ok (.iload_n 1, 1) ∧ 27 + 1 = 28 := ⟨by decide +kernel, rfl⟩
theorem dWR_putParts_28 : decode b_WR_putParts 28 = .ok (.iaload, 1) ∧ 28 + 1 = 29 := ⟨by decide +kernel, rfl⟩
theorem dWR_putParts_29 : decode b_WR_putParts 29 = .ok (.aload_n 0, 1) ∧ 29 + 1 = 30 := ⟨by decide +kernel, rfl⟩
theorem dWR_putParts_30 : decode b_WR_putParts 30 = .ok (.getfield 35, 3) ∧ 30 + 3 = 33 := ⟨by decide +kernel, rfl⟩
theorem dWR_putParts_33 : decode b_WR_putParts 33 = .ok (.iload_n 1, 1) ∧ 33 + 1 = 34 := ⟨by decide +kernel, rfl⟩
theorem dWR_putParts_34 : decode b_WR_putParts 34 = .ok (.iaload, 1) ∧ 34 + 1 = 35 := ⟨by decide +kernel, rfl⟩
theorem dWR_putParts_35 : decode b_WR_putParts 35 = .ok (.invokevirtual 195, 3) ∧ 35 + 3 = 38 := ⟨by decide +kernel, rfl⟩
theorem dWR_putParts_38 : decode b_WR_putParts 38 = .ok (.iinc 1 (1), 3) ∧ 38 + 3 = 41 := ⟨by decide +kernel, rfl⟩
theorem dWR_putParts_41 : decode b_WR_putParts 41 = .ok (.goto (-39), 3) ∧ 41 + 3 = 44 ∧ ((41 : Nat) : Int) + (-39) = ((2 : Nat) : Int) := ⟨by decide +kernel, rfl, by decide⟩
theorem dWR_putParts_44 : decode b_WR_putParts 44 = .ok (.iconst 0, 1) ∧ 44 + 1 = 45 := ⟨by decide +kernel, rfl⟩
theorem dWR_putParts_45 : decode b_WR_putParts 45 = .ok (.istore_n 1, 1) ∧ 45 + 1 = 46 := ⟨by decide +kernel, rfl⟩
theorem dWR_putParts_46 : decode b_WR_putParts 46 = .ok (.iload_n 1, 1) ∧ 46 + 1 = 47 := ⟨by decide +kernel, rfl⟩
theorem dWR_putParts_47 : decode b_WR_putParts 47 = .ok (.aload_n 0, 1) ∧ 47 + 1 = 48 := ⟨by decide +kernel, rfl⟩
theorem dWR_putParts_48 : decode b_WR_putParts 48 = .ok (.getfield 47, 3) ∧ 48 + 3 = 51 := ⟨by decide +kernel, rfl⟩
theorem dWR_putParts_51 : decode b_WR_putParts 51 = .ok (.getfield 130, 3) ∧ 51 + 3 = 54 := ⟨by decide +kernel, rfl⟩
theorem dWR_putParts_54 : decode b_WR_putParts 54 = .ok (.if_icmp .ge (34), 3) ∧ 54 + 3 = 57 ∧ ((54 : Nat) : Int) + (34) = ((88 : Nat) : Int) := ⟨by decide +kernel, rfl, by decide⟩
theorem dWR_putParts_57 : decode b_WR_putParts 57 = .ok (.aload_n 0, 1) ∧ 57 + 1 = 58 := ⟨by decide +kernel, rfl⟩
theorem dWR_putParts_58 : decode b_WR_putParts 58 = .ok (.getfield 51, 3) ∧ 58 + 3 = 61 := ⟨by decide +kernel, rfl⟩
theorem dWR_putParts_61 : decode b_WR_putParts 61 = .ok (.aload_n 0, 1) ∧ 61 + 1 = 62 := ⟨by decide +kernel, rfl⟩
theorem dWR_putParts_62 : decode b_WR_putParts 62 = .ok (.getfield 32, 3) ∧ 62 + 3 = 65 := ⟨by decide +kernel, rfl⟩
theorem dWR_putParts_65 : decode b_WR_putParts 65 = .ok (.iconst 4, 1) ∧ 65 + 1 = 66 := ⟨by decide +kernel, rfl⟩
theorem dWR_putParts_66 : decode b_WR_putParts 66 = .ok (.iaload, 1) ∧ 66 + 1 = 67 := ⟨by decide +kernel, rfl⟩
theorem dWR_putParts_67 : decode b_WR_putParts 67 = .ok (.iconst 2, 1) ∧ 67 + 1 = 68 := ⟨by decide +kernel, rfl⟩
theorem dWR_putParts_68 : decode b_WR_putParts 68 = .ok (.iload_n 1, 1) ∧ 68 + 1 = 69 := ⟨by decide +kernel, rfl⟩
theorem dWR_putParts_69 : decode b_WR_putParts 69 = .ok (.imul, 1) ∧ 69 + 1 = 70 := ⟨by decide +kernel, rfl⟩
theorem dWR_putParts_70 : decode b_WR_putParts 70 = .ok (.iadd, 1) ∧ 70 + 1 = 71 := ⟨by decide +kernel, rfl⟩
theorem dWR_putParts_71 : decode b_WR_putParts 71 = .ok (.aload_n 0, 1) ∧ 71 + 1 = 72 := ⟨by decide +kernel, rfl⟩
theorem dWR_putParts_72 : decode b_WR_putParts 72 = .ok (.getfield 47, 3) ∧ 72 + 3 = 75 := ⟨by decide +kernel, rfl⟩
theorem dWR_putParts_75 : decode b_WR_putParts 75 = .ok (.iload_n 1, 1) ∧ 75 + 1 = 76 := ⟨by decide +kernel, rfl⟩
theorem dWR_putParts_76 : decode b_WR_putParts 76 = .ok (.invokevirtual 199, 3) ∧ 76 + 3 = 79 := ⟨by decide +kernel, rfl⟩
theorem dWR_putParts_79 : decode b_WR_putParts 79 = .ok (.invokevirtual 183, 3) ∧ 79 + 3 = 82 := ⟨by decide +kernel, rfl⟩
theorem dWR_putParts_82 : decode b_WR_putParts 82 = .ok (.iinc 1 (1), 3) ∧ 82 + 3 = 85 := ⟨by decide +kernel, rfl⟩
theorem dWR_putParts_85 : decode b_WR_putParts 85 = .ok (.goto (-39), 3) ∧ 85 + 3 = 88 ∧ ((85 : Nat) : Int) + (-39) = ((46 : Nat) : Int) := ⟨by decide +kernel, rfl, by decide⟩
theorem dWR_putParts_88 : decode b_WR_putParts 88 = .ok (.iconst 0, 1) ∧ 88 + 1 = 89 := ⟨by decide +kernel, rfl⟩
theorem dWR_putParts_89 : decode b_WR_putParts 89 = .ok (.istore_n 1, 1) ∧ 89 + 1 = 90 := ⟨by decide +kernel, rfl⟩
theorem dWR_putParts_90 : decode b_WR_putParts 90 = .ok (.iload_n 1, 1) ∧ 90 + 1 = 91 := ⟨by decide +kernel, rfl⟩
theorem dWR_putParts_91 : decode b_WR_putParts 91 = .ok (.iconst 2, 1) ∧ 91 + 1 = 92 := ⟨by decide +kernel, rfl⟩
theorem dWR_putParts_92 : decode b_WR_putParts 92 = .ok (.if_icmp .gt (14), 3) ∧ 92 + 3 = 95 ∧ ((92 : Nat) : Int) + (14) = ((106 : Nat) : Int) := ⟨by decide +kernel, rfl, by decide⟩
theorem dWR_putParts_95 : decode b_WR_putParts 95 = .ok (.aload_n 0, 1) ∧ 95 + 1 = 96 := ⟨by decide +kernel, rfl⟩
theorem dWR_putParts_96 : decode b_WR_putParts 96 = .ok (.iload_n 1, 1) ∧ 96 + 1 = 97 := ⟨by decide +kernel, rfl⟩
theorem dWR_putParts_97 : decode b_WR_putParts 97 = .ok (.invokevirtual 202, 3) ∧ 97 + 3 = 100 := ⟨by decide +kernel, rfl⟩
theorem dWR_putParts_100 : decode b_WR_putParts 100 = .ok (.iinc 1 (1), 3) ∧ 100 + 3 = 103 := ⟨by decide +kernel, rfl⟩
theorem dWR_putParts_103 : decode b_WR_putParts 103 = .ok (.goto (-13), 3) ∧ 103 + 3 = 106 ∧ ((103 : Nat) : Int) + (-13) = ((90 : Nat) : Int) := ⟨by decide +kernel, rfl, by decide⟩
theorem dWR_putParts_106 : decode b_WR_putParts 106 = .ok (.iconst 0, 1) ∧ 106 + 1 = 107 := ⟨by decide +kernel, rfl⟩
theorem dWR_putParts_107 : decode b_WR_putParts 107 = .ok (.istore_n 1, 1) ∧ 107 + 1 = 108 := ⟨by decide +kernel, rfl⟩
theorem dWR_putParts_108 : decode b_WR_putParts 108 = .ok (.iload_n 1, 1) ∧ 108 + 1 = 109 := ⟨by decide +kernel, rfl⟩
theorem dWR_putParts_109 : decode b_WR_putParts 109 = .ok (.aload_n 0, 1) ∧ 109 + 1 = 110 := ⟨by decide +kernel, rfl⟩
theorem dWR_putParts_110 : decode b_WR_putParts 110 = .ok (.getfield 47, 3) ∧ 110 + 3 = 113 := ⟨by decide +kernel, rfl⟩
theorem dWR_putParts_113 : decode b_WR_putParts 113 = .ok (.getfield 104, 3) ∧ 113 + 3 = 116 := ⟨by decide +kernel, rfl⟩
theorem dWR_putParts_116 : decode b_WR_putParts 116 = .ok (.if_icmp .ge (14), 3) ∧ 116 + 3 = 119 ∧ ((116 : Nat) : Int) + (14) = ((130 : Nat) : Int) := ⟨by decide +kernel, rfl, by decide⟩
theorem dWR_putParts_119 : decode b_WR_putParts 119 = .ok (.aload_n 0, 1) ∧ 119 + 1 = 120 := ⟨by decide +kernel, rfl⟩
theorem dWR_putParts_120 : decode b_WR_putParts 120 = .ok (.iload_n 1, 1) ∧ 120 + 1 = 121 := ⟨by decide +kernel, rfl⟩
theorem dWR_putParts_121 : decode b_WR_putParts 121 = .ok (.invokevirtual 205, 3) ∧ 121 + 3 = 124 := ⟨by decide +kernel, rfl⟩
theorem dWR_putParts_124 : decode b_WR_putParts 124 = .ok (.iinc 1 (1), 3) ∧ 124 + 3 = 127 := ⟨by decide +kernel, rfl⟩
theorem dWR_putParts_127 : decode b_WR_putParts 127 = .ok (.goto (-19), 3) ∧ 127 + 3 = 130 ∧ ((127 : Nat) : Int) + (-19) = ((108 : Nat) : Int) := ⟨by decide +kernel, rfl, by decide⟩
theorem dWR_putParts_130 : decode b_WR_putParts 130 = .ok (.aload_n 0, 1) ∧ 130 + 1 = 131 := ⟨by decide +kernel, rfl⟩
theorem dWR_putParts_131 : decode b_WR_putParts 131 = .ok (.getfield 51, 3) ∧ 131 + 3 = 134 := ⟨by decide +kernel, rfl⟩
theorem dWR_putParts_134 : decode b_WR_putParts 134 = .ok (.aload_n 0, 1) ∧ 134 + 1 = 135 := ⟨by decide +kernel, rfl⟩
theorem dWR_putParts_135 : decode b_WR_putParts 135 = .ok (.getfield 12, 3) ∧ 135 + 3 = 138 := ⟨by decide +kernel, rfl⟩
theorem dWR_putParts_138 : decode b_WR_putParts 138 = .ok (.getfield 208, 3) ∧ 138 + 3 = 141 := ⟨by decide +kernel, rfl⟩
theorem dWR_putParts_141 : decode b_WR_putParts 141 = .ok (.iconst 0, 1) ∧ 141 + 1 = 142 := ⟨by decide +kernel, rfl⟩
theorem dWR_putParts_142 : decode b_WR_putParts 142 = .ok (.aload_n 0, 1) ∧ 142 + 1 = 143 := ⟨by decide +kernel, rfl⟩
theorem dWR_putParts_143 : decode b_WR_putParts 143 = .ok (.getfield 32, 3) ∧ 143 + 3 = 146 := ⟨by decide +kernel, rfl⟩
theorem dWR_putParts_146 : decode b_WR_putParts 146 = .ok (.bipush (9), 2) ∧ 146 + 2 = 148 := ⟨by decide +kernel, rfl⟩
theorem dWR_putParts_148 : decode b_WR_putParts 148 = .ok (.iaload, 1) ∧ 148 + 1 = 149 := ⟨by decide +kernel, rfl⟩
theorem dWR_putParts_149 : decode b_WR_putParts 149 = .ok (.aload_n 0, 1) ∧ 149 + 1 = 150 := ⟨by decide +kernel, rfl⟩
theorem dWR_putParts_150 : decode b_WR_putParts 150 = .ok (.getfield 35, 3) ∧ 150 + 3 = 153 := ⟨by decide +kernel, rfl⟩
theorem dWR_putParts_153 : decode b_WR_putParts 153 = .ok (.bipush (9), 2) ∧ 153 + 2 = 155 := ⟨by decide +kernel, rfl⟩
theorem dWR_putParts_155 : decode b_WR_putParts 155 = .ok (.iaload, 1) ∧ 155 + 1 = 156 := ⟨by decide +kernel, rfl⟩
theorem dWR_putParts_156 : decode b_WR_putParts 156 = .ok (.invokevirtual 195, 3) ∧ 156 + 3 = 159 := ⟨by decide +kernel, rfl⟩
theorem dWR_putParts_159 : decode b_WR_putParts 159 = .ok (.aload_n 0, 1) ∧ 159 + 1 = 160 := ⟨by decide +kernel, rfl⟩
theorem dWR_putParts_160 : decode b_WR_putParts 160 = .ok (.getfield 51, 3) ∧ 160 + 3 = 163 := ⟨by decide +kernel, rfl⟩
theorem dWR_putParts_163 : decode b_WR_putParts 163 = .ok (.aload_n 0, 1) ∧ 163 + 1 = 164 := ⟨by decide +kernel, rfl⟩
theorem dWR_putParts_164 : decode b_WR_putParts 164 = .ok (.getfield 18, 3) ∧ 164 + 3 = 167 := ⟨by decide +kernel, rfl⟩
theorem dWR_putParts_167 : decode b_WR_putParts 167 = .ok (.getfield 208, 3) ∧ 167 + 3 = 170 := ⟨by decide +kernel, rfl⟩
theorem dWR_putParts_170 : decode b_WR_putParts 170 = .ok (.iconst 0, 1) ∧ 170 + 1 = 171 := ⟨by decide +kernel, rfl⟩
theorem dWR_putParts_171 : decode b_WR_putParts 171 = .ok (.aload_n 0, 1) ∧ 171 + 1 = 172 := ⟨by decide +kernel, rfl⟩
theorem dWR_putParts_172 : decode b_WR_putParts 172 = .ok (.getfield 32, 3) ∧ 172 + 3 = 175 := ⟨by decide +kernel, rfl⟩
theorem dWR_putParts_175 : decode b_WR_putParts 175 = .ok (.bipush (10), 2) ∧ 175 + 2 = 177 := ⟨by decide +kernel, rfl⟩
theorem dWR_putParts_177 : decode b_WR_putParts 177 = .ok (.iaload, 1) ∧ 177 + 1 = 178 := ⟨by decide +kernel, rfl⟩
theorem dWR_putParts_178 : decode b_WR_putParts 178 = .ok (.aload_n 0, 1) ∧ 178 + 1 = 179 := ⟨by decide +kernel, rfl⟩
theorem dWR_putParts_179 : decode b_WR_putParts 179 = .ok (.getfield 35, 3) ∧ 179 + 3 = 182 := ⟨by decide +kernel, rfl⟩
theorem dWR_putParts_182 : decode b_WR_putParts 182 = .ok (.bipush (10), 2) ∧ 182 + 2 = 184 := ⟨by decide +kernel, rfl⟩
theorem dWR_putParts_184 : decode b_WR_putParts 184 = .ok (.iaload, 1) ∧ 184 + 1 = 185 := ⟨by decide +kernel, rfl⟩
theorem dWR_putParts_185 : decode b_WR_putParts 185 = .ok (.invokevirtual 195, 3) ∧ 185 + 3 = 188 := ⟨by decide +kernel, rfl⟩
theorem dWR_putParts_188 : decode b_WR_putParts 188 = .ok (.return_, 1) ∧ 188 + 1 = 189 := ⟨by decide +kernel, rfl⟩
theorem dOF_isRela_0 : decode b_OF_isRela 0 = .ok (.iload_n 0, 1) ∧ 0 + 1 = 1 := ⟨by decide +kernel, rfl⟩
theorem dOF_isRela_1 : decode b_OF_isRela 1 = .ok (.iconst 5, 1) ∧ 1 + 1 = 2 := ⟨by decide +kernel, rfl⟩
theorem dOF_isRela_2 : decode b_OF_isRela 2 = .ok (.if_icmp .lt (13), 3) ∧ 2 + 3 = 5 ∧ ((2 : Nat) : Int) + (13) = ((15 : Nat) : Int) := ⟨by decide +kernel, rfl, by decide⟩
theorem dOF_isRela_5 : decode b_OF_isRela 5 = .ok (.iload_n 0, 1) ∧ 5 + 1 = 6 := ⟨by decide +kernel, rfl⟩
theorem dOF_isRela_6 : decode b_OF_isRela 6 = .ok (.bipush (8), 2) ∧ 6 + 2 = 8 := ⟨by decide +kernel, rfl⟩
theorem dOF_isRela_8 : decode b_OF_isRela 8 = .ok (.if_icmp .ge (7), 3) ∧ 8 + 3 = 11 ∧ ((8 : Nat) : Int) + (7) = ((15 : Nat) : Int) := ⟨by decide +kernel, rfl, by decide⟩
theorem dOF_isRela_11 : decode b_OF_isRela 11 = .ok (.iconst 1, 1) ∧ 11 + 1 = 12 := ⟨by decide +kernel, rfl⟩
theorem dOF_isRela_12 : decode b_OF_isRela 12 = .ok (.goto (4), 3) ∧ 12 + 3 = 15 ∧ ((12 : Nat) : Int) + (4) = ((16 : Nat) : Int) := ⟨by decide +kernel, rfl, by decide⟩
theorem dOF_isRela_15 : decode b_OF_isRela 15 = .ok (.iconst 0, 1) ∧ 15 + 1 = 16 := ⟨by decide +kernel, rfl⟩
theorem dOF_isRela_16 : decode b_OF_isRela 16 = .ok (.ireturn, 1) ∧ 16 + 1 = 17 := ⟨by decide +kernel, rfl⟩
theorem dWR_linkOf_0 : decode b_WR_linkOf 0 = .ok (.iload_n 1, 1) ∧ 0 + 1 = 1 := ⟨by decide +kernel, rfl⟩
theorem dWR_linkOf_1 : decode b_WR_linkOf 1 = .ok (.invokestatic 240, 3) ∧ 1 + 3 = 4 := ⟨by decide +kernel, rfl⟩
theorem dWR_linkOf_4 : decode b_WR_linkOf 4 = .ok (.ifCond .eq (13), 3) ∧ 4 + 3 = 7 ∧ ((4 : Nat) : Int) + (13) = ((17 : Nat) : Int) := ⟨by decide +kernel, rfl, by decide⟩
theorem dWR_linkOf_7 : decode b_WR_linkOf 7 = .ok (.aload_n 0, 1) ∧ 7 + 1 = 8 := ⟨by decide +kernel, rfl⟩
theorem dWR_linkOf_8 : decode b_WR_linkOf 8 = .ok (.getfield 25, 3) ∧ 8 + 3 = 11 := ⟨by decide +kernel, rfl⟩
theorem dWR_linkOf_11 : decode b_WR_linkOf 11 = .ok (.bipush (8), 2) ∧ 11 + 2 = 13 := ⟨by decide +kernel, rfl⟩
theorem dWR_linkOf_13 : decode b_WR_linkOf 13 = .ok (.iaload, 1) ∧ 13 + 1 = 14 := ⟨by decide +kernel, rfl⟩
theorem dWR_linkOf_14 : decode b_WR_linkOf 14 = .ok (.goto (20), 3) ∧ 14 + 3 = 17 ∧ ((14 : Nat) : Int) + (20) = ((34 : Nat) : Int) := ⟨by decide +kernel, rfl, by decide⟩
theorem dWR_linkOf_17 : decode b_WR_linkOf 17 = .ok (.iload_n 1, 1) ∧ 17 + 1 = 18 := ⟨by decide +kernel, rfl⟩
theorem dWR_linkOf_18 : decode b_WR_linkOf 18 = .ok (.bipush (8), 2) ∧ 18 + 2 = 20 := ⟨by decide +kernel, rfl⟩
theorem dWR_linkOf_20 : decode b_WR_linkOf 20 = .ok (.if_icmp .ne (13), 3) ∧ 20 + 3 = 23 ∧ ((20 : Nat) : Int) + (13) = ((33 : Nat) : Int) := ⟨by decide +kernel, rfl, by decide⟩
theorem dWR_linkOf_23 : decode b_WR_linkOf 23 = .ok (.aload_n 0, 1) ∧ 23 + 1 = 24 := ⟨by decide +kernel, rfl⟩
theorem dWR_linkOf_24 : decode b_WR_linkOf 24 = .ok (.getfield 25, 3) ∧ 24 + 3 = 27 := ⟨by decide +kernel, rfl⟩
theorem dWR_linkOf_27 : decode b_WR_linkOf 27 = .ok (.bipush (9), 2) ∧ 27 + 2 = 29 := ⟨by decide +kernel, rfl⟩
theorem dWR_linkOf_29 : decode b_WR_linkOf 29 = .ok (.iaload, 1) ∧ 29 + 1 = 30 := ⟨by decide +kernel, rfl⟩
theorem dWR_linkOf_30 : decode b_WR_linkOf 30 = .ok (.goto (4), 3) ∧ 30 + 3 = 33 ∧ ((30 : Nat) : Int) + (4) = ((34 : Nat) : Int) := ⟨by decide +kernel, rfl, by decide⟩
theorem dWR_linkOf_33 : decode b_WR_linkOf 33 = .ok (.iconst 0, 1) ∧ 33 + 1 = 34 := ⟨by decide +kernel, rfl⟩
theorem dWR_linkOf_34 : decode b_WR_linkOf 34 = .ok (.ireturn, 1) ∧ 34 + 1 = 35 := ⟨by decide +kernel, rfl⟩
theorem dWR_infoOf_0 : decode b_WR_infoOf 0 = .ok (.iload_n 1, 1) ∧ 0 + 1 = 1 := ⟨by decide +kernel, rfl⟩
theorem dWR_infoOf_1 : decode b_WR_infoOf 1 = .ok (.invokestatic 240, 3) ∧ 1 + 3 = 4 := ⟨by decide +kernel, rfl⟩
theorem dWR_infoOf_4 : decode b_WR_infoOf 4 = .ok (.ifCond .eq (14), 3) ∧ 4 + 3 = 7 ∧ ((4 : Nat) : Int) + (14) = ((18 : Nat) : Int) := ⟨by decide +kernel, rfl, by decide⟩
theorem dWR_infoOf_7 : decode b_WR_infoOf 7 = .ok (.aload_n 0, 1) ∧ 7 + 1 = 8 := ⟨by decide +kernel, rfl⟩
theorem dWR_infoOf_8 : decode b_WR_infoOf 8 = .ok (.getfield 25, 3) ∧ 8 + 3 = 11 := ⟨by decide +kernel, rfl⟩
theorem dWR_infoOf_11 : decode b_WR_infoOf 11 = .ok (.iload_n 1, 1) ∧ 11 + 1 = 12 := ⟨by decide +kernel, rfl⟩
theorem dWR_infoOf_12 : decode b_WR_infoOf 12 = .ok (.iconst 5, 1) ∧ 12 + 1 = 13 := ⟨by decide +kernel, rfl⟩
theorem dWR_infoOf_13 : decode b_WR_infoOf 13 = .ok (.isub, 1) ∧ 13 + 1 = 14 := ⟨by decide +kernel, rfl⟩
theorem dWR_infoOf_14 : decode b_WR_infoOf 14 = .ok (.iaload, 1) ∧ 14 + 1 = 15 := ⟨by decide +kernel, rfl⟩
theorem dWR_infoOf_15 : decode b_WR_infoOf 15 = .ok (.goto (19), 3) ∧ 15 + 3 = 18 ∧ ((15 : Nat) : Int) + (19) = ((34 : Nat) : Int) := ⟨by decide +kernel, rfl, by decide⟩
theorem dWR_infoOf_18 : decode b_WR_infoOf 18 = .ok (.iload_n 1, 1) ∧ 18 + 1 = 19 := ⟨by decide +kernel, rfl⟩
theorem dWR_infoOf_19 : decode b_WR_infoOf 19 = .ok (.bipush (8), 2) ∧ 19 + 2 = 21 := ⟨by decide +kernel, rfl⟩
theorem dWR_infoOf_21 : decode b_WR_infoOf 21 = .ok (.if_icmp .ne (12), 3) ∧ 21 + 3 = 24 ∧ ((21 : Nat) : Int) + (12) = ((33 : Nat) : Int) := ⟨by decide +kernel, rfl, by decide⟩
theorem dWR_infoOf_24 : decode b_WR_infoOf 24 = .ok (.iconst 1, 1) ∧ 24 + 1 = 25 := ⟨by decide +kernel, rfl⟩
theorem dWR_infoOf_25 : decode b_WR_infoOf 25 = .ok (.aload_n 0, 1) ∧ 25 + 1 = 26 := ⟨by decide +kernel, rfl⟩
theorem dWR_infoOf_26 : decode b_WR_infoOf 26 = .ok (.getfield 115, 3) ∧ 26 + 3 = 29 := ⟨by decide +kernel, rfl⟩
theorem dWR_infoOf_29 : decode b_WR_infoOf 29 = .ok (.iadd, 1) ∧ 29 + 1 = 30 := ⟨by decide +kernel, rfl⟩
theorem dWR_infoOf_30 : decode b_WR_infoOf 30 = .ok (.goto (4), 3) ∧ 30 + 3 = 33 ∧ ((30 : Nat) : Int) + (4) = ((34 : Nat) : Int) := ⟨by decide +kernel, rfl, by decide⟩
theorem dWR_infoOf_33 : decode b_WR_infoOf 33 = .ok (.iconst 0, 1) ∧ 33 + 1 = 34 := ⟨by decide +kernel, rfl⟩
theorem dWR_infoOf_34 : decode b_WR_infoOf 34 = .ok (.ireturn, 1) ∧ 34 + 1 = 35 := ⟨by decide +kernel, rfl⟩
theorem dWR_putEntry_0 : decode b_WR_putEntry 0 = .ok (.aload_n 0, 1) ∧ 0 + 1 = 1 := ⟨by decide +kernel, rfl⟩
theorem dWR_putEntry_1 : decode b_WR_putEntry 1 = .ok (.getfield 82, 3) ∧ 1 + 3 = 4 := ⟨by decide +kernel, rfl⟩
theorem dWR_putEntry_4 : decode b_WR_putEntry 4 = .ok (.bipush (40), 2) ∧ 4 + 2 = 6 := ⟨by decide +kernel, rfl⟩
theorem dWR_putEntry_6 : decode b_WR_putEntry 6 = .ok (.aload_n 0, 1) ∧ 6 + 1 = 7 := ⟨by decide +kernel, rfl⟩
theorem dWR_putEntry_7 : decode b_WR_putEntry 7 = .ok (.getfield 25, 3) ∧ 7 + 3 = 10 := ⟨by decide +kernel, rfl⟩
theorem dWR_putEntry_10 : decode b_WR_putEntry 10 = .ok (.iload_n 1, 1) ∧ 10 + 1 = 11 := ⟨by decide +kernel, rfl⟩
theorem dWR_putEntry_11 : decode b_WR_putEntry 11 = .ok (.iaload, 1) ∧ 11 + 1 = 12 := ⟨by decide +kernel, rfl⟩
theorem dWR_putEntry_12 : decode b_WR_putEntry 12 = .ok (.imul, 1) ∧ 12 + 1 = 13 := ⟨by decide +kernel, rfl⟩
theorem dWR_putEntry_13 : decode b_WR_putEntry 13 = .ok (.iadd, 1) ∧ 13 + 1 = 14 := ⟨by decide +kernel, rfl⟩
theorem dWR_putEntry_14 : decode b_WR_putEntry 14 = .ok (.istore_n 2, 1) ∧ 14 + 1 = 15 := ⟨by decide +kernel, rfl⟩
theorem dWR_putEntry_15 : decode b_WR_putEntry 15 = .ok (.aload_n 0, 1) ∧ 15 + 1 = 16 := ⟨by decide +kernel, rfl⟩
theorem dWR_putEntry_16 : decode b_WR_putEntry 16 = .ok (.getfield 51, 3) ∧ 16 + 3 = 19 := ⟨by decide +kernel, rfl⟩
theorem dWR_putEntry_19 : decode b_WR_putEntry 19 = .ok (.iload_n 2, 1) ∧ 19 + 1 = 20 := ⟨by decide +kernel, rfl⟩
theorem dWR_putEntry_20 : decode b_WR_putEntry 20 = .ok (.iconst 0, 1) ∧ 20 + 1 = 21 := ⟨by decide +kernel, rfl⟩
theorem dWR_putEntry_21 : decode b_WR_putEntry 21 = .ok (.iadd, 1) ∧ 21 + 1 = 22 := ⟨by decide +kernel, rfl⟩
theorem dWR_putEntry_22 : decode b_WR_putEntry 22 = .ok (.aload_n 0, 1) ∧ 22 + 1 = 23 := ⟨by decide +kernel, rfl⟩
theorem dWR_putEntry_23 : decode b_WR_putEntry 23 = .ok (.getfield 29, 3) ∧ 23 + 3 = 26 := ⟨by decide +kernel, rfl⟩
theorem dWR_putEntry_26 : decode b_WR_putEntry 26 = .ok (.iload_n 1, 1) ∧ 26 + 1 = 27 := ⟨by decide +kernel, rfl⟩
theorem dWR_putEntry_27 : decode b_WR_putEntry 27 = .ok (.iaload, 1) ∧ 27 + 1 = 28 := ⟨by decide +kernel, rfl⟩
theorem dWR_putEntry_28 : decode b_WR_putEntry 28 = .ok (.invokevirtual 186, 3) ∧ 28 + 3 = 31 := ⟨by decide +kernel, rfl⟩
theorem dWR_putEntry_31 : decode b_WR_putEntry 31 = .ok (.aload_n 0, 1) ∧ 31 + 1 = 32 := ⟨by decide +kernel, rfl⟩
theorem dWR_putEntry_32 : decode b_WR_putEntry 32 = .ok (.getfield 51, 3) ∧ 32 + 3 = 35 := ⟨by decide +kernel, rfl⟩
theorem dWR_putEntry_35 : decode b_WR_putEntry 35 = .ok (.iload_n 2, 1) ∧ 35 + 1 = 36 := ⟨by decide +kernel, rfl⟩
theorem dWR_putEntry_36 : decode b_WR_putEntry 36 = .ok (.iconst 4, 1) ∧ 36 + 1 = 37 := ⟨by decide +kernel, rfl⟩
theorem dWR_putEntry_37 : decode b_WR_putEntry 37 = .ok (.iadd, 1) ∧ 37 + 1 = 38 := ⟨by decide +kernel, rfl⟩
theorem dWR_putEntry_38 : decode b_WR_putEntry 38 = .ok (.getstatic 225, 3) ∧ 38 + 3 = 41 := ⟨by decide +kernel, rfl⟩
theorem dWR_putEntry_41 : decode b_WR_putEntry 41 = .ok (.iload_n 1, 1) ∧ 41 + 1 = 42 := ⟨by decide +kernel, rfl⟩
theorem dWR_putEntry_42 : decode b_WR_putEntry 42 = .ok (.iaload, 1) ∧ 42 + 1 = 43 := ⟨by decide +kernel, rfl⟩
theorem dWR_putEntry_43 : decode b_WR_putEntry 43 = .ok (.invokevirtual 186, 3) ∧ 43 + 3 = 46 := ⟨by decide +kernel, rfl⟩
theorem dWR_putEntry_46 : decode b_WR_putEntry 46 = .ok (.aload_n 0, 1) ∧ 46 + 1 = 47 := ⟨by decide +kernel, rfl⟩
theorem dWR_putEntry_47 : decode b_WR_putEntry 47 = .ok (.getfield 51, 3) ∧ 47 + 3 = 50 := ⟨by decide +kernel, rfl⟩
theorem dWR_putEntry_50 : decode b_WR_putEntry 50 = .ok (.iload_n 2, 1) ∧ 50 + 1 = 51 := ⟨by decide +kernel, rfl⟩
theorem dWR_putEntry_51 : decode b_WR_putEntry 51 = .ok (.bipush (8), 2) ∧ 51 + 2 = 53 := ⟨by decide +kernel, rfl⟩
theorem dWR_putEntry_53 : decode b_WR_putEntry 53 = .ok (.iadd, 1) ∧ 53 + 1 = 54 := ⟨by decide +kernel, rfl⟩
theorem dWR_putEntry_54 : decode b_WR_putEntry 54 = .ok (.getstatic 228, 3) ∧ 54 + 3 = 57 := ⟨by decide +kernel, rfl⟩
theorem dWR_putEntry_57 : decode b_WR_putEntry 57 = .ok (.iload_n 1, 1) ∧ 57 + 1 = 58 := ⟨by decide +kernel, rfl⟩
theorem dWR_putEntry_58 : decode b_WR_putEntry 58 = .ok (.iaload, 1) ∧ 58 + 1 = 59 := ⟨by decide +kernel, rfl⟩
theorem dWR_putEntry_59 : decode b_WR_putEntry 59 = .ok (.invokevirtual 186, 3) ∧ 59 + 3 = 62 := ⟨by decide +kernel, rfl⟩
theorem dWR_putEntry_62 : decode b_WR_putEntry 62 = .ok (.aload_n 0, 1) ∧ 62 + 1 = 63 := ⟨by decide +kernel, rfl⟩
theorem dWR_putEntry_63 : decode b_WR_putEntry 63 = .ok (.getfield 51, 3) ∧ 63 + 3 = 66 := ⟨by decide +kernel, rfl⟩
theorem dWR_putEntry_66 : decode b_WR_putEntry 66 = .ok (.iload_n 2, 1) ∧ 66 + 1 = 67 := ⟨by decide +kernel, rfl⟩
theorem dWR_putEntry_67 : decode b_WR_putEntry 67 = .ok (.bipush (16), 2) ∧ 67 + 2 = 69 := ⟨by decide +kernel, rfl⟩
theorem dWR_putEntry_69 : decode b_WR_putEntry 69 = .ok (.iadd, 1) ∧ 69 + 1 = 70 := ⟨by decide +kernel, rfl⟩
theorem dWR_putEntry_70 : decode b_WR_putEntry 70 = .ok (.aload_n 0, 1) ∧ 70 + 1 = 71 := ⟨by decide +kernel, rfl⟩
theorem dWR_putEntry_71 : decode b_WR_putEntry 71 = .ok (.getfield 32, 3) ∧ 71 + 3 = 74 := ⟨by decide +kernel, rfl⟩
theorem dWR_putEntry_74 : decode b_WR_putEntry 74 = .ok (.iload_n 1, 1) ∧ 74 + 1 = 75 := ⟨by decide +kernel, rfl⟩
theorem dWR_putEntry_75 : decode b_WR_putEntry 75 = .ok (.iaload, 1) ∧ 75 + 1 = 76 := ⟨by decide +kernel, rfl⟩
theorem dWR_putEntry_76 : decode b_WR_putEntry 76 = .ok (.invokevirtual 186, 3) ∧ 76 + 3 = 79 := ⟨by decide +kernel, rfl⟩
theorem dWR_putEntry_79 : decode b_WR_putEntry 79 = .ok (.aload_n 0, 1) ∧ 79 + 1 = 80 := ⟨by decide +kernel, rfl⟩
theorem dWR_putEntry_80 : decode b_WR_putEntry 80 = .ok (.getfield 51, 3) ∧ 80 + 3 = 83 := ⟨by decide +kernel, rfl⟩
theorem dWR_putEntry_83 : decode b_WR_putEntry 83 = .ok (.iload_n 2, 1) ∧ 83 + 1 = 84 := ⟨by decide +kernel, rfl⟩
theorem dWR_putEntry_84 : decode b_WR_putEntry 84 = .ok (.bipush (20), 2) ∧ 84 + 2 = 86 := ⟨by decide +kernel, rfl⟩
theorem dWR_putEntry_86 : decode b_WR_putEntry 86 = .ok (.iadd, 1) ∧ 86 + 1 = 87 := ⟨by decide +kernel, rfl⟩
theorem dWR_putEntry_87 : decode b_WR_putEntry 87 = .ok (.aload_n 0, 1) ∧ 87 + 1 = 88 := ⟨by decide +kernel, rfl⟩
theorem dWR_putEntry_88 : decode b_WR_putEntry 88 = .ok (.getfield 35, 3) ∧ 88 + 3 = 91 := ⟨by decide +kernel, rfl⟩
theorem dWR_putEntry_91 : decode b_WR_putEntry 91 = .ok (.iload_n 1, 1) ∧ 91 + 1 = 92 := ⟨by decide +kernel, rfl⟩
theorem dWR_putEntry_92 : decode b_WR_putEntry 92 = .ok (.iaload, 1) ∧ 92 + 1 = 93 := ⟨by decide +kernel, rfl⟩
theorem dWR_putEntry_93 : decode b_WR_putEntry 93 = .ok (.invokevirtual 186, 3) ∧ 93 + 3 = 96 := ⟨by decide +kernel, rfl⟩
theorem dWR_putEntry_96 : decode b_WR_putEntry 96 = .ok (.aload_n 0, 1) ∧ 96 + 1 = 97 := ⟨by decide +kernel, rfl⟩
theorem dWR_putEntry_97 : decode b_WR_putEntry 97 = .ok (.getfield 51, 3) ∧ 97 + 3 = 100 := ⟨by decide +kernel, rfl⟩
theorem dWR_putEntry_100 : decode b_WR_putEntry 100 = .ok (.iload_n 2, 1) ∧ 100 + 1 = 101 := ⟨by decide +kernel, rfl⟩
theorem dWR_putEntry_101 : decode b_WR_putEntry 101 = .ok (.bipush (24), 2) ∧ 101 + 2 = 103 := ⟨by decide +kernel, rfl⟩
theorem dWR_putEntry_103 : decode b_WR_putEntry 103 = .ok (.iadd, 1) ∧ 103 + 1 = 104 := ⟨by decide +kernel, rfl⟩
theorem dWR_putEntry_104 : decode b_WR_putEntry 104 = .ok (.aload_n 0, 1) ∧ 104 + 1 = 105 := ⟨by decide +kernel, rfl⟩
theorem dWR_putEntry_105 : decode b_WR_putEntry 105 = .ok (.iload_n 1, 1) ∧ 105 + 1 = 106 := ⟨by decide +kernel, rfl⟩
theorem dWR_putEntry_106 : decode b_WR_putEntry 106 = .ok (.invokevirtual 231, 3) ∧ 106 + 3 = 109 := ⟨by decide +kernel, rfl⟩
theorem dWR_putEntry_109 : decode b_WR_putEntry 109 = .ok (.invokevirtual 186, 3) ∧ 109 + 3 = 112 := ⟨by decide +kernel, rfl⟩
theorem dWR_putEntry_112 : decode b_WR_putEntry 112 = .ok (.aload_n 0, 1) ∧ 112 + 1 = 113 := ⟨by decide +kernel, rfl⟩
theorem dWR_putEntry_113 : decode b_WR_putEntry 113 = .ok (.getfield 51, 3) ∧ 113 + 3 = 116 := ⟨by decide +kernel, rfl⟩
theorem dWR_putEntry_116 : decode b_WR_putEntry 116 = .ok (.iload_n 2, 1) ∧ 116 + 1 = 117 := ⟨by decide +kernel, rfl⟩
theorem dWR_putEntry_117 : decode b_WR_putEntry 117 = .ok (.bipush (28), 2) ∧ 117 + 2 = 119 := ⟨by decide +kernel, rfl⟩
theorem dWR_putEntry_119 : decode b_WR_putEntry 119 = .ok (.iadd, 1) ∧ 119 + 1 = 120 := ⟨by decide +kernel, rfl⟩
theorem dWR_putEntry_120 : decode b_WR_putEntry 120 = .ok (.aload_n 0, 1) ∧ 120 + 1 = 121 := ⟨by decide +kernel, rfl⟩
theorem dWR_putEntry_121 : decode b_WR_putEntry 121 = .ok (.iload_n 1, 1) ∧ 121 + 1 = 122 := ⟨by decide +kernel, rfl⟩
theorem dWR_putEntry_122 : decode b_WR_putEntry 122 = .ok (.invokevirtual 234, 3) ∧ 122 + 3 = 125 := ⟨by decide +kernel, rfl⟩
theorem dWR_putEntry_125 : decode b_WR_putEntry 125 = .ok (.invokevirtual 186, 3) ∧ 125 + 3 = 128 := ⟨by decide +kernel, rfl⟩
theorem dWR_putEntry_128 : decode b_WR_putEntry 128 = .ok (.aload_n 0, 1) ∧ 128 + 1 = 129 := ⟨by decide +kernel, rfl⟩
theorem dWR_putEntry_129 : decode b_WR_putEntry 129 = .ok (.getfield 51, 3) ∧ 129 + 3 = 132 := ⟨by decide +kernel, rfl⟩
theorem dWR_putEntry_132 : decode b_WR_putEntry 132 = .ok (.iload_n 2, 1) ∧ 132 + 1 = 133 := ⟨by decide +kernel, rfl⟩
theorem dWR_putEntry_133 : decode b_WR_putEntry 133 = .ok (.bipush (32), 2) ∧ 133 + 2 = 135 := ⟨by decide +kernel, rfl⟩
theorem dWR_putEntry_135 : decode b_WR_putEntry 135 = .ok (.iadd, 1) ∧ 135 + 1 = 136 := ⟨by decide +kernel, rfl⟩
theorem dWR_putEntry_136 : decode b_WR_putEntry 136 = .ok (.aload_n 0, 1) ∧ 136 + 1 = 137 := ⟨by decide +kernel, rfl⟩
theorem dWR_putEntry_137 : decode b_WR_putEntry 137 = .ok (.iload_n 1, 1) ∧ 137 + 1 = 138 := ⟨by decide +kernel, rfl⟩
theorem dWR_putEntry_138 : decode b_WR_putEntry 138 = .ok (.invokevirtual 165, 3) ∧ 138 + 3 = 141 := ⟨by decide +kernel, rfl⟩
theorem dWR_putEntry_141 : decode b_WR_putEntry 141 = .ok (.invokevirtual 186, 3) ∧ 141 + 3 = 144 := ⟨by decide +kernel, rfl⟩
theorem dWR_putEntry_144 : decode b_WR_putEntry 144 = .ok (.aload_n 0, 1) ∧ 144 + 1 = 145 := ⟨by decide +kernel, rfl⟩
theorem dWR_putEntry_145 : decode b_WR_putEntry 145 = .ok (.getfield 51, 3) ∧ 145 + 3 = 148 := ⟨by decide +kernel, rfl⟩
theorem dWR_putEntry_148 : decode b_WR_putEntry 148 = .ok (.iload_n 2, 1) ∧ 148 + 1 = 149 := ⟨by decide +kernel, rfl⟩
theorem dWR_putEntry_149 : decode b_WR_putEntry 149 = .ok (.bipush (36), 2) ∧ 149 + 2 = 151 := ⟨by decide +kernel, rfl⟩
theorem dWR_putEntry_151 : decode b_WR_putEntry 151 = .ok (.iadd, 1) ∧ 151 + 1 = 152 := ⟨by decide +kernel, rfl⟩
theorem dWR_putEntry_152 : decode b_WR_putEntry 152 = .ok (.getstatic 237, 3) ∧ 152 + 3 = 155 := ⟨by decide +kernel, rfl⟩
theorem dWR_putEntry_155 : decode b_WR_putEntry 155 = .ok (.iload_n 1, 1) ∧ 155 + 1 = 156 := ⟨by decide +kernel, rfl⟩
theorem dWR_putEntry_156 : decode b_WR_putEntry 156 = .ok (.iaload, 1) ∧ 156 + 1 = 157 := ⟨by decide +kernel, rfl⟩
theorem dWR_putEntry_157 : decode b_WR_putEntry 157 = .ok (.invokevirtual 186, 3) ∧ 157 + 3 = 160 := ⟨by decide +kernel, rfl⟩
theorem dWR_putEntry_160 : decode b_WR_putEntry 160 = .ok (.return_, 1) ∧ 160 + 1 = 161 := ⟨by decide +kernel, rfl⟩
theorem dWR_putTable_0 : decode b_WR_putTable 0 = .ok (.iconst 0, 1) ∧ 0 + 1 = 1 := ⟨by decide +kernel, rfl⟩
theorem dWR_putTable_1 : decode b_WR_putTable 1 = .ok (.istore_n 1, 1) ∧ 1 + 1 = 2 := ⟨by decide +kernel, rfl⟩
theorem dWR_putTable_2 : decode b_WR_putTable 2 = .ok (.iload_n 1, 1) ∧ 2 + 1 = 3 := ⟨by decide +kernel, rfl⟩
theorem dWR_putTable_3 : decode b_WR_putTable 3 = .ok (.bipush (11), 2) ∧ 3 + 2 = 5 := ⟨by decide +kernel, rfl⟩
theorem dWR_putTable_5 : decode b_WR_putTable 5 = .ok (.if_icmp .ge (22), 3) ∧ 5 + 3 = 8 ∧ ((5 : Nat) : Int) + (22) = ((27 : Nat) : Int) := ⟨by decide +kernel, rfl, by decide⟩
theorem dWR_putTable_8 : decode b_WR_putTable 8 = .ok (.aload_n 0, 1) ∧ 8 + 1 = 9 := ⟨by decide +kernel, rfl⟩
theorem dWR_putTable_9 : decode b_WR_putTable 9 = .ok (.iload_n 1, 1) ∧ 9 + 1 = 10 := ⟨by decide +kernel, rfl⟩
theorem dWR_putTable_10 : decode b_WR_putTable 10 = .ok (.invokevirtual 140, 3) ∧ 10 + 3 = 13 := ⟨by decide +kernel, rfl⟩
theorem dWR_putTable_13 : decode b_WR_putTable 13 = .ok (.ifCond .eq (8), 3) ∧ 13 + 3 = 16 ∧ ((13 : Nat) : Int) + (8) = ((21 : Nat) : Int) := ⟨by decide +kernel, rfl, by decide⟩
theorem dWR_putTable_16 : decode b_WR_putTable 16 = .ok (.aload_n 0, 1) ∧ 16 + 1 = 17 := ⟨by decide +kernel, rfl⟩
theorem dWR_putTable_17 : decode b_WR_putTable 17 = .ok (.iload_n 1, 1) ∧ 17 + 1 = 18 := ⟨by decide +kernel, rfl⟩
theorem dWR_putTable_18 : decode b_WR_putTable 18 = .ok (.invokevirtual 222, 3) ∧ 18 + 3 = 21 := ⟨by decide +kernel, rfl⟩
theorem dWR_putTable_21 : decode b_WR_putTable 21 = .ok (.iinc 1 (1), 3) ∧ 21 + 3 = 24 := ⟨by decide +kernel, rfl⟩
theorem dWR_putTable_24 : decode b_WR_putTable 24 = .ok (.goto (-22), 3) ∧ 24 + 3 = 27 ∧ ((24 : Nat) : Int) + (-22) = ((2 : Nat) : Int) := ⟨by decide +kernel, rfl, by decide⟩
theorem dWR_putTable_27 : decode b_WR_putTable 27 = .ok (.return_, 1) ∧ 27 + 1 = 28 := ⟨by decide +kernel, rfl⟩
theorem dWR_writeAll_0 : decode b_WR_writeAll 0 = .ok (.aload_n 0, 1) ∧ 0 + 1 = 1 := ⟨by decide +kernel, rfl⟩
theorem dWR_writeAll_1 : decode b_WR_writeAll 1 = .ok (.getfield 47, 3) ∧ 1 + 3 = 4 := ⟨by decide +kernel, rfl⟩
theorem dWR_writeAll_4 : decode b_WR_writeAll 4 = .ok (.invokevirtual 55, 3) ∧ 4 + 3 = 7 := ⟨by decide +kernel, rfl⟩
theorem dWR_writeAll_7 : decode b_WR_writeAll 7 = .ok (.ifCond .eq (5), 3) ∧ 7 + 3 = 10 ∧ ((7 : Nat) : Int) + (5) = ((12 : Nat) : Int) := ⟨by decide +kernel, rfl, by decide⟩
theorem dWR_writeAll_10 : decode b_WR_writeAll 10 = .ok (.iconst (-1), 1) ∧ 10 + 1 = 11 := ⟨by decide +kernel, rfl⟩
theorem dWR_writeAll_11 : decode b_WR_writeAll 11 = .ok (.ireturn, 1) ∧ 11 + 1 = 12 := ⟨by decide +kernel, rfl⟩
theorem dWR_writeAll_12 : decode b_WR_writeAll 12 = .ok (.aload_n 0, 1) ∧ 12 + 1 = 13 := ⟨by decide +kernel, rfl⟩
theorem dWR_writeAll_13 : decode b_WR_writeAll 13 = .ok (.getfield 47, 3) ∧ 13 + 3 = 16 := ⟨by decide +kernel, rfl⟩
theorem dWR_writeAll_16 : decode b_WR_writeAll 16 = .ok (.invokevirtual 61, 3) ∧ 16 + 3 = 19 := ⟨by decide +kernel, rfl⟩
theorem dWR_writeAll_19 : decode b_WR_writeAll 19 = .ok (.ifCond .eq (6), 3) ∧ 19 + 3 = 22 ∧ ((19 : Nat) : Int) + (6) = ((25 : Nat) : Int) := ⟨by decide +kernel, rfl, by decide⟩
theorem dWR_writeAll_22 : decode b_WR_writeAll 22 = .ok (.bipush (-2), 2) ∧ 22 + 2 = 24 := ⟨by decide +kernel, rfl⟩
theorem dWR_writeAll_24 : decode b_WR_writeAll 24 = .ok (.ireturn, 1) ∧ 24 + 1 = 25 := ⟨by decide +kernel, rfl⟩
theorem dWR_writeAll_25 : decode b_WR_writeAll 25 = .ok (.aload_n 0, 1) ∧ 25 + 1 = 26 := ⟨by decide +kernel, rfl⟩
theorem dWR_writeAll_26 : decode b_WR_writeAll 26 = .ok (.getfield 47, 3) ∧ 26 + 3 = 29 := ⟨by decide +kernel, rfl⟩
theorem dWR_writeAll_29 : decode b_WR_writeAll 29 = .ok (.invokevirtual 64, 3) ∧ 29 + 3 = 32 := ⟨by decide +kernel, rfl⟩
theorem dWR_writeAll_32 : decode b_WR_writeAll 32 = .ok (.ifCond .eq (6), 3) ∧ 32 + 3 = 35 ∧ ((32 : Nat) : Int) + (6) = ((38 : Nat) : Int) := ⟨by decide +kernel, rfl, by decide⟩
theorem dWR_writeAll_35 : decode b_WR_writeAll 35 = .ok (.bipush (-3), 2) ∧ 35 + 2 = 37 := ⟨by decide +kernel, rfl⟩
theorem dWR_writeAll_37 : decode b_WR_writeAll 37 = .ok (.ireturn, 1) ∧ 37 + 1 = 38 := ⟨by decide +kernel, rfl⟩
theorem dWR_writeAll_38 : decode b_WR_writeAll 38 = .ok (.aload_n 0, 1) ∧ 38 + 1 = 39 := ⟨by decide +kernel, rfl⟩
theorem dWR_writeAll_39 : decode b_WR_writeAll 39 = .ok (.invokevirtual 67, 3) ∧ 39 + 3 = 42 := ⟨by decide +kernel, rfl⟩
theorem dWR_writeAll_42 : decode b_WR_writeAll 42 = .ok (.aload_n 0, 1) ∧ 42 + 1 = 43 := ⟨by decide +kernel, rfl⟩
theorem dWR_writeAll_43 : decode b_WR_writeAll 43 = .ok (.invokevirtual 70, 3) ∧ 43 + 3 = 46 := ⟨by decide +kernel, rfl⟩
theorem dWR_writeAll_46 : decode b_WR_writeAll 46 = .ok (.aload_n 0, 1) ∧ 46 + 1 = 47 := ⟨by decide +kernel, rfl⟩
theorem dWR_writeAll_47 : decode b_WR_writeAll 47 = .ok (.invokevirtual 73, 3) ∧ 47 + 3 = 50 := ⟨by decide +kernel, rfl⟩
theorem dWR_writeAll_50 : decode b_WR_writeAll 50 = .ok (.aload_n 0, 1) ∧ 50 + 1 = 51 := ⟨by decide +kernel, rfl⟩
theorem dWR_writeAll_51 : decode b_WR_writeAll 51 = .ok (.invokevirtual 76, 3) ∧ 51 + 3 = 54 := ⟨by decide +kernel, rfl⟩
theorem dWR_writeAll_54 : decode b_WR_writeAll 54 = .ok (.aload_n 0, 1) ∧ 54 + 1 = 55 := ⟨by decide +kernel, rfl⟩
theorem dWR_writeAll_55 : decode b_WR_writeAll 55 = .ok (.invokevirtual 79, 3) ∧ 55 + 3 = 58 := ⟨by decide +kernel, rfl⟩
theorem dWR_writeAll_58 : decode b_WR_writeAll 58 = .ok (.aload_n 0, 1) ∧ 58 + 1 = 59 := ⟨by decide +kernel, rfl⟩
theorem dWR_writeAll_59 : decode b_WR_writeAll 59 = .ok (.getfield 82, 3) ∧ 59 + 3 = 62 := ⟨by decide +kernel, rfl⟩
theorem dWR_writeAll_62 : decode b_WR_writeAll 62 = .ok (.bipush (40), 2) ∧ 62 + 2 = 64 := ⟨by decide +kernel, rfl⟩
theorem dWR_writeAll_64 : decode b_WR_writeAll 64 = .ok (.aload_n 0, 1) ∧ 64 + 1 = 65 := ⟨by decide +kernel, rfl⟩
theorem dWR_writeAll_65 : decode b_WR_writeAll 65 = .ok (.getfield 86, 3) ∧ 65 + 3 = 68 := ⟨by decide +kernel, rfl⟩
theorem dWR_writeAll_68 : decode b_WR_writeAll 68 = .ok (.imul, 1) ∧ 68 + 1 = 69 := ⟨by decide +kernel, rfl⟩
theorem dWR_writeAll_69 : decode b_WR_writeAll 69 = .ok (.iadd, 1) ∧ 69 + 1 = 70 := ⟨by decide +kernel, rfl⟩
theorem dWR_writeAll_70 : decode b_WR_writeAll 70 = .ok (.istore_n 1, 1) ∧ 70 + 1 = 71 := ⟨by decide +kernel, rfl⟩
theorem dWR_writeAll_71 : decode b_WR_writeAll 71 = .ok (.iload_n 1, 1) ∧ 71 + 1 = 72 := ⟨by decide +kernel, rfl⟩
theorem dWR_writeAll_72 : decode b_WR_writeAll 72 = .ok (.sipush (8192), 3) ∧ 72 + 3 = 75 := ⟨by decide +kernel, rfl⟩
theorem dWR_writeAll_75 : decode b_WR_writeAll 75 = .ok (.if_icmp .le (6), 3) ∧ 75 + 3 = 78 ∧ ((75 : Nat) : Int) + (6) = ((81 : Nat) : Int) := ⟨by decide +kernel, rfl, by decide⟩
theorem dWR_writeAll_78 : decode b_WR_writeAll 78 = .ok (.bipush (-4), 2) ∧ 78 + 2 = 80 := ⟨by decide +kernel, rfl⟩
theorem dWR_writeAll_80 : decode b_WR_writeAll 80 = .ok (.ireturn, 1) ∧ 80 + 1 = 81 := ⟨by decide +kernel, rfl⟩
theorem dWR_writeAll_81 : decode b_WR_writeAll 81 = .ok (.aload_n 0, 1) ∧ 81 + 1 = 82 := ⟨by decide +kernel, rfl⟩
theorem dWR_writeAll_82 : decode b_WR_writeAll 82 = .ok (.getfield 51, 3) ∧ 82 + 3 = 85 := ⟨by decide +kernel, rfl⟩
theorem dWR_writeAll_85 : decode b_WR_writeAll 85 = .ok (.iload_n 1, 1) ∧ 85 + 1 = 86 := ⟨by decide +kernel, rfl⟩
theorem dWR_writeAll_86 : decode b_WR_writeAll 86 = .ok (.invokevirtual 89, 3) ∧ 86 + 3 = 89 := ⟨by decide +kernel, rfl⟩
theorem dWR_writeAll_89 : decode b_WR_writeAll 89 = .ok (.aload_n 0, 1) ∧ 89 + 1 = 90 := ⟨by decide +kernel, rfl⟩
theorem dWR_writeAll_90 : decode b_WR_writeAll 90 = .ok (.invokevirtual 95, 3) ∧ 90 + 3 = 93 := ⟨by decide +kernel, rfl⟩
theorem dWR_writeAll_93 : decode b_WR_writeAll 93 = .ok (.aload_n 0, 1) ∧ 93 + 1 = 94 := ⟨by decide +kernel, rfl⟩
theorem dWR_writeAll_94 : decode b_WR_writeAll 94 = .ok (.invokevirtual 98, 3) ∧ 94 + 3 = 97 := ⟨by decide +kernel, rfl⟩
theorem dWR_writeAll_97 : decode b_WR_writeAll 97 = .ok (.aload_n 0, 1) ∧ 97 + 1 = 98 := ⟨by decide +kernel, rfl⟩
theorem dWR_writeAll_98 : decode b_WR_writeAll 98 = .ok (.invokevirtual 101, 3) ∧ 98 + 3 = 101 := ⟨by decide +kernel, rfl⟩
theorem dWR_writeAll_101 : decode b_WR_writeAll 101 = .ok (.iload_n 1, 1) ∧ 101 + 1 = 102 := ⟨by decide +kernel, rfl⟩
theorem dWR_writeAll_102 : decode b_WR_writeAll 102 = .ok (.ireturn, 1) ∧ 102 + 1 = 103 := ⟨by decide +kernel, rfl⟩
theorem dOF_write_0 : decode b_OF_write 0 = .ok (.aload_n 0, 1) ∧ 0 + 1 = 1 := ⟨by decide +kernel, rfl⟩
theorem dOF_write_1 : decode b_OF_write 1 = .ok (.getfield 31, 3) ∧ 1 + 3 = 4 := ⟨by decide +kernel, rfl⟩
theorem dOF_write_4 : decode b_OF_write 4 = .ok (.invokevirtual 131, 3) ∧ 4 + 3 = 7 := ⟨by decide +kernel, rfl⟩
theorem dOF_write_7 : decode b_OF_write 7 = .ok (.ireturn, 1) ∧ 7 + 1 = 8 := ⟨by decide +kernel, rfl⟩
theorem dOF_size_0 : decode b_OF_size 0 = .ok (.aload_n 0, 1) ∧ 0 + 1 = 1 := ⟨by decide +kernel, rfl⟩
theorem dOF_size_1 : decode b_OF_size 1 = .ok (.getfield 22, 3) ∧ 1 + 3 = 4 := ⟨by decide +kernel, rfl⟩
theorem dOF_size_4 : decode b_OF_size 4 = .ok (.getfield 134, 3) ∧ 4 + 3 = 7 := ⟨by decide +kernel, rfl⟩
theorem dOF_size_7 : decode b_OF_size 7 = .ok (.ireturn, 1) ∧ 7 + 1 = 8 := ⟨by decide +kernel, rfl⟩
theorem dFB_has_0 : decode b_FB_has 0 = .ok (.iload_n 1, 1) ∧ 0 + 1 = 1 := ⟨by decide +kernel, rfl⟩
theorem dFB_has_1 : decode b_FB_has 1 = .ok (.ifCond .lt (15), 3) ∧ 1 + 3 = 4 ∧ ((1 : Nat) : Int) + (15) = ((16 : Nat) : Int) := ⟨by decide +kernel, rfl, by decide⟩
theorem dFB_has_4 : decode b_FB_has 4 = .ok (.iload_n 1, 1) ∧ 4 + 1 = 5 := ⟨by decide +kernel, rfl⟩
theorem dFB_has_5 : decode b_FB_has 5 = .ok (.aload_n 0, 1) ∧ 5 + 1 = 6 := ⟨by decide +kernel, rfl⟩
theorem dFB_has_6 : decode b_FB_has 6 = .ok (.getfield 15, 3) ∧ 6 + 3 = 9 := ⟨by decide +kernel, rfl⟩
theorem dFB_has_9 : decode b_FB_has 9 = .ok (.if_icmp .ge (7), 3) ∧ 9 + 3 = 12 ∧ ((9 : Nat) : Int) + (7) = ((16 : Nat) : Int) := ⟨by decide +kernel, rfl, by decide⟩
theorem dFB_has_12 : decode b_FB_has 12 = .ok (.iconst 1, 1) ∧ 12 + 1 = 13 := ⟨by decide +kernel, rfl⟩
theorem dFB_has_13 : decode b_FB_has 13 = .ok (.goto (4), 3) ∧ 13 + 3 = 16 ∧ ((13 : Nat) : Int) + (4) = ((17 : Nat) : Int) := ⟨by decide +kernel, rfl, by decide⟩
theorem dFB_has_16 : decode b_FB_has 16 = .ok (.iconst 0, 1) ∧ 16 + 1 = 17 := ⟨by decide +kernel, rfl⟩
theorem dFB_has_17 : decode b_FB_has 17 = .ok (.ireturn, 1) ∧ 17 + 1 = 18 := ⟨by decide +kernel, rfl⟩
theorem dFB_u1_0 : decode b_FB_u1 0 = .ok (.iload_n 1, 1) ∧ 0 + 1 = 1 := ⟨by decide +kernel, rfl⟩
theorem dFB_u1_1 : decode b_FB_u1 1 = .ok (.ifCond .lt (11), 3) ∧ 1 + 3 = 4 ∧ ((1 : Nat) : Int) + (11) = ((12 : Nat) : Int) := ⟨by decide +kernel, rfl, by decide⟩
theorem dFB_u1_4 : decode b_FB_u1 4 = .ok (.iload_n 1, 1) ∧ 4 + 1 = 5 := ⟨by decide +kernel, rfl⟩
theorem dFB_u1_5 : decode b_FB_u1 5 = .ok (.aload_n 0, 1) ∧ 5 + 1 = 6 := ⟨by decide +kernel, rfl⟩
theorem dFB_u1_6 : decode b_FB_u1 6 = .ok (.getfield 15, 3) ∧ 6 + 3 = 9 := ⟨by decide +kernel, rfl⟩
theorem dFB_u1_9 : decode b_FB_u1 9 = .ok (.if_icmp .lt (7), 3) ∧ 9 + 3 = 12 ∧ ((9 : Nat) : Int) + (7) = ((16 : Nat) : Int) := ⟨by decide +kernel, rfl, by decide⟩
theorem dFB_u1_12 : decode b_FB_u1 12 = .ok (.iconst 0, 1) ∧ 12 + 1 = 13 := ⟨by decide +kernel, rfl⟩
theorem dFB_u1_13 : decode b_FB_u1 13 = .ok (.goto (13), 3) ∧ 13 + 3 = 16 ∧ ((13 : Nat) : Int) + (13) = ((26 : Nat) : Int) := ⟨by decide +kernel, rfl, by decide⟩
theorem dFB_u1_16 : decode b_FB_u1 16 = .ok (.aload_n 0, 1) ∧ 16 + 1 = 17 := ⟨by decide +kernel, rfl⟩
theorem dFB_u1_17 : decode b_FB_u1 17 = .ok (.getfield 9, 3) ∧ 17 + 3 = 20 := ⟨by decide +kernel, rfl⟩
theorem dFB_u1_20 : decode b_FB_u1 20 = .ok (.iload_n 1, 1) ∧ 20 + 1 = 21 := ⟨by decide +kernel, rfl⟩
theorem dFB_u1_21 : decode b_FB_u1 21 = .ok (.baload, 1) ∧ 21 + 1 = 22 := ⟨by decide +kernel, rfl⟩
theorem dFB_u1_22 : decode b_FB_u1 22 = .ok (.sipush (255), 3) ∧ 22 + 3 = 25 := ⟨by decide +kernel, rfl⟩
theorem dFB_u1_25 : decode b_FB_u1 25 = .ok (.iand, 1) ∧ 25 + 1 = 26 := ⟨by decide +kernel, rfl⟩
theorem dFB_u1_26 : decode b_FB_u1 26 = .ok (.ireturn, 1) ∧ 26 + 1 = 27 := ⟨by decide +kernel, rfl⟩
theorem dOF_byteAt_0 : decode b_OF_byteAt 0 = .ok (.aload_n 0, 1) ∧ 0 + 1 = 1 := ⟨by decide +kernel, rfl⟩
theorem dOF_byteAt_1 : decode b_OF_byteAt 1 = .ok (.getfield 22, 3) ∧ 1 + 3 = 4 := ⟨by decide +kernel, rfl⟩
theorem dOF_byteAt_4 : decode b_OF_byteAt 4 = .ok (.iload_n 1, 1) ∧ 4 + 1 = 5 := ⟨by decide +kernel, rfl⟩
theorem dOF_byteAt_5 : decode b_OF_byteAt 5 = .ok (.invokevirtual 137, 3) ∧ 5 + 3 = 8 := ⟨by decide +kernel, rfl⟩
theorem dOF_byteAt_8 : decode b_OF_byteAt 8 = .ok (.ifCond .eq (14), 3) ∧ 8 + 3 = 11 ∧ ((8 : Nat) : Int) + (14) = ((22 : Nat) : Int) := ⟨by decide +kernel, rfl, by decide⟩
theorem dOF_byteAt_11 : decode b_OF_byteAt 11 = .ok (.aload_n 0, 1) ∧ 11 + 1 = 12 := ⟨by decide +kernel, rfl⟩
theorem dOF_byteAt_12 : decode b_OF_byteAt 12 = .ok (.getfield 22, 3) ∧ 12 + 3 = 15 := ⟨by decide +kernel, rfl⟩
theorem dOF_byteAt_15 : decode b_OF_byteAt 15 = .ok (.iload_n 1, 1) ∧ 15 + 1 = 16 := ⟨by decide +kernel, rfl⟩
theorem dOF_byteAt_16 : decode b_OF_byteAt 16 = .ok (.invokevirtual 140, 3) ∧ 16 + 3 = 19 := ⟨by decide +kernel, rfl⟩
theorem dOF_byteAt_19 : decode b_OF_byteAt 19 = .ok (.goto (4), 3) ∧ 19 + 3 = 22 ∧ ((19 : Nat) : Int) + (4) = ((23 : Nat) : Int) := ⟨by decide +kernel, rfl, by decide⟩
theorem dOF_byteAt_22 : decode b_OF_byteAt 22 = .ok (.iconst (-1), 1) ∧ 22 + 1 = 23 := ⟨by decide +kernel, rfl⟩
theorem dOF_byteAt_23 : decode b_OF_byteAt 23 = .ok (.ireturn, 1) ∧ 23 + 1 = 24 := ⟨by decide +kernel, rfl⟩
theorem dFB_append_0 : decode b_FB_append 0 = .ok (.iload_n 1, 1) ∧ 0 + 1 = 1 := ⟨by decide +kernel, rfl⟩
theorem dFB_append_1 : decode b_FB_append 1 = .ok (.iconst 1, 1) ∧ 1 + 1 = 2 := ⟨by decide +kernel, rfl⟩
theorem dFB_append_2 : decode b_FB_append 2 = .ok (.if_icmp .lt (21), 3) ∧ 2 + 3 = 5 ∧ ((2 : Nat) : Int) + (21) = ((23 : Nat) : Int) := ⟨by decide +kernel, rfl, by decide⟩
theorem dFB_append_5 : decode b_FB_append 5 = .ok (.iload_n 1, 1) ∧ 5 + 1 = 6 := ⟨by decide +kernel, rfl⟩
theorem dFB_append_6 : decode b_FB_append 6 = .ok (.bipush (8), 2) ∧ 6 + 2 = 8 := ⟨by decide +kernel, rfl⟩
theorem dFB_append_8 : decode b_FB_append 8 = .ok (.if_icmp .gt (15), 3) ∧ 8 + 3 = 11 ∧ ((8 : Nat) : Int) + (15) = ((23 : Nat) : Int) := ⟨by decide +kernel, rfl, by decide⟩
theorem dFB_append_11 : decode b_FB_append 11 = .ok (.aload_n 0, 1) ∧ 11 + 1 = 12 := ⟨by decide +kernel, rfl⟩
theorem dFB_append_12 : decode b_FB_append 12 = .ok (.getfield 15, 3) ∧ 12 + 3 = 15 := ⟨by decide +kernel, rfl⟩
theorem dFB_append_15 : decode b_FB_append 15 = .ok (.iload_n 1, 1) ∧ 15 + 1 = 16 := ⟨by decide +kernel, rfl⟩
theorem dFB_append_16 : decode b_FB_append 16 = .ok (.iadd, 1) ∧ 16 + 1 = 17 := ⟨by decide +kernel, rfl⟩
theorem dFB_append_17 : decode b_FB_append 17 = .ok (.sipush (8192), 3) ∧ 17 + 3 = 20 := ⟨by decide +kernel, rfl⟩
theorem dFB_append_20 : decode b_FB_append 20 = .ok (.if_icmp .le (5), 3) ∧ 20 + 3 = 23 ∧ ((20 : Nat) : Int) + (5) = ((25 : Nat) : Int) := ⟨by decide +kernel, rfl, by decide⟩
theorem dFB_append_23 : decode b_FB_append 23 = .ok (.iconst 0, 1) ∧ 23 + 1 = 24 := ⟨by decide +kernel, rfl⟩
theorem dFB_append_24 : decode b_FB_append 24 = .ok (.ireturn, 1) ∧ 24 + 1 = 25 := ⟨by decide +kernel, rfl⟩
theorem dFB_append_25 : decode b_FB_append 25 = .ok (.iconst 0, 1) ∧ 25 + 1 = 26 := ⟨by decide +kernel, rfl⟩
theorem dFB_append_26 : decode b_FB_append 26 = .ok (.istore 4, 2) ∧ 26 + 2 = 28 := ⟨by decide +kernel, rfl⟩
theorem dFB_append_28 : decode b_FB_append 28 = .ok (.iload 4, 2) ∧ 28 + 2 = 30 := ⟨by decide +kernel, rfl⟩
theorem dFB_append_30 : decode b_FB_append 30 = .ok (.iload_n 1, 1) ∧ 30 + 1 = 31 := ⟨by decide +kernel, rfl⟩
theorem dFB_append_31 : decode b_FB_append 31 = .ok (.if_icmp .ge (40), 3) ∧ 31 + 3 = 34 ∧ ((31 : Nat) : Int) + (40) = ((71 : Nat) : Int) := ⟨by decide +kernel, rfl, by decide⟩
theorem dFB_append_34 : decode b_FB_append 34 = .ok (.aload_n 0, 1) ∧ 34 + 1 = 35 := ⟨by decide +kernel, rfl⟩
theorem dFB_append_35 : decode b_FB_append 35 = .ok (.getfield 9, 3) ∧ 35 + 3 = 38 := ⟨by decide +kernel, rfl⟩
theorem dFB_append_38 : decode b_FB_append 38 = .ok (.aload_n 0, 1) ∧ 38 + 1 = 39 := ⟨by decide +kernel, rfl⟩
theorem dFB_append_39 : decode b_FB_append 39 = .ok (.getfield 15, 3) ∧ 39 + 3 = 42 := ⟨by decide +kernel, rfl⟩
theorem dFB_append_42 : decode b_FB_append 42 = .ok (.lload_n 2, 1) ∧ 42 + 1 = 43 := ⟨by decide +kernel, rfl⟩
theorem dFB_append_43 : decode b_FB_append 43 = .ok (.bipush (56), 2) ∧ 43 + 2 = 45 := ⟨by decide +kernel, rfl⟩
theorem dFB_append_45 : decode b_FB_append 45 = .ok (.bipush (8), 2) ∧ 45 + 2 = 47 := ⟨by decide +kernel, rfl⟩
theorem dFB_append_47 : decode b_FB_append 47 = .ok (.iload 4, 2) ∧ 47 + 2 = 49 := ⟨by decide +kernel, rfl⟩
theorem dFB_append_49 : decode b_FB_append 49 = .ok (.imul, 1) ∧ 49 + 1 = 50 := ⟨by decide +kernel, rfl⟩
theorem dFB_append_50 : decode b_FB_append 50 = .ok (.isub, 1) ∧ 50 + 1 = 51 := ⟨by decide +kernel, rfl⟩
theorem dFB_append_51 : decode b_FB_append 51 = .ok (.lushr, 1) ∧ 51 + 1 = 52 := ⟨by decide +kernel, rfl⟩
theorem dFB_append_52 : decode b_FB_append 52 = .ok (.l2i, 1) ∧ 52 + 1 = 53 := ⟨by decide +kernel, rfl⟩
theorem dFB_append_53 : decode b_FB_append 53 = .ok (.i2b, 1) ∧ 53 + 1 = 54 := ⟨by decide +kernel, rfl⟩
theorem dFB_append_54 : decode b_FB_append 54 = .ok (.bastore, 1) ∧ 54 + 1 = 55 := ⟨by decide +kernel, rfl⟩
theorem dFB_append_55 : decode b_FB_append 55 = .ok (.aload_n 0, 1) ∧ 55 + 1 = 56 := ⟨by decide +kernel, rfl⟩
theorem dFB_append_56 : decode b_FB_append 56 = .ok (.dup, 1) ∧ 56 + 1 = 57 := ⟨by decide +kernel, rfl⟩
theorem dFB_append_57 : decode b_FB_append 57 = .ok (.getfield 15, 3) ∧ 57 + 3 = 60 := ⟨by decide +kernel, rfl⟩
theorem dFB_append_60 : decode b_FB_append 60 = .ok (.iconst 1, 1) ∧ 60 + 1 = 61 := ⟨by decide +kernel, rfl⟩
theorem dFB_append_61 : decode b_FB_append 61 = .ok (.iadd, 1) ∧ 61 + 1 = 62 := ⟨by decide +kernel, rfl⟩
theorem dFB_append_62 : decode b_FB_append 62 = .ok (.putfield 15, 3) ∧ 62 + 3 = 65 := ⟨by decide +kernel, rfl⟩
theorem dFB_append_65 : decode b_FB_append 65 = .ok (.iinc 4 (1), 3) ∧ 65 + 3 = 68 := ⟨by decide +kernel, rfl⟩
theorem dFB_append_68 : decode b_FB_append 68 = .ok (.goto (-40), 3) ∧ 68 + 3 = 71 ∧ ((68 : Nat) : Int) + (-40) = ((28 : Nat) : Int) := ⟨by decide +kernel, rfl, by decide⟩
theorem dFB_append_71 : decode b_FB_append 71 = .ok (.iconst 1, 1) ∧ 71 + 1 = 72 := ⟨by decide +kernel, rfl⟩
theorem dFB_append_72 : decode b_FB_append 72 = .ok (.ireturn, 1) ∧ 72 + 1 = 73 := ⟨by decide +kernel, rfl⟩
theorem dOF_feed_0 : decode b_OF_feed 0 = .ok (.aload_n 0, 1) ∧ 0 + 1 = 1 := ⟨by decide +kernel, rfl⟩
theorem dOF_feed_1 : decode b_OF_feed 1 = .ok (.getfield 22, 3) ∧ 1 + 3 = 4 := ⟨by decide +kernel, rfl⟩
theorem dOF_feed_4 : decode b_OF_feed 4 = .ok (.iload_n 1, 1) ∧ 4 + 1 = 5 := ⟨by decide +kernel, rfl⟩
theorem dOF_feed_5 : decode b_OF_feed 5 = .ok (.lload_n 2, 1) ∧ 5 + 1 = 6 := ⟨by decide +kernel, rfl⟩
theorem dOF_feed_6 : decode b_OF_feed 6 = .ok (.invokevirtual 144, 3) ∧ 6 + 3 = 9 := ⟨by decide +kernel, rfl⟩
theorem dOF_feed_9 : decode b_OF_feed 9 = .ok (.ireturn, 1) ∧ 9 + 1 = 10 := ⟨by decide +kernel, rfl⟩
theorem dOF_cut_0 : decode b_OF_cut 0 = .ok (.iload_n 1, 1) ∧ 0 + 1 = 1 := ⟨by decide +kernel, rfl⟩
theorem dOF_cut_1 : decode b_OF_cut 1 = .ok (.ifCond .lt (14), 3) ∧ 1 + 3 = 4 ∧ ((1 : Nat) : Int) + (14) = ((15 : Nat) : Int) := ⟨by decide +kernel, rfl, by decide⟩
theorem dOF_cut_4 : decode b_OF_cut 4 = .ok (.iload_n 1, 1) ∧ 4 + 1 = 5 := ⟨by decide +kernel, rfl⟩
theorem dOF_cut_5 : decode b_OF_cut 5 = .ok (.aload_n 0, 1) ∧ 5 + 1 = 6 := ⟨by decide +kernel, rfl⟩
theorem dOF_cut_6 : decode b_OF_cut 6 = .ok (.getfield 22, 3) ∧ 6 + 3 = 9 := ⟨by decide +kernel, rfl⟩
theorem dOF_cut_9 : decode b_OF_cut 9 = .ok (.getfield 134, 3) ∧ 9 + 3 = 12 := ⟨by decide +kernel, rfl⟩
theorem dOF_cut_12 : decode b_OF_cut 12 = .ok (.if_icmp .le (5), 3) ∧ 12 + 3 = 15 ∧ ((12 : Nat) : Int) + (5) = ((17 : Nat) : Int) := ⟨by decide +kernel, rfl, by decide⟩
theorem dOF_cut_15 : decode b_OF_cut 15 = .ok (.iconst 0, 1) ∧ 15 + 1 = 16 := ⟨by decide +kernel, rfl⟩
theorem dOF_cut_16 : decode b_OF_cut 16 = .ok (.ireturn, 1) ∧ 16 + 1 = 17 := ⟨by decide +kernel, rfl⟩
theorem dOF_cut_17 : decode b_OF_cut 17 = .ok (.aload_n 0, 1) ∧ 17 + 1 = 18 := ⟨by decide +kernel, rfl⟩
theorem dOF_cut_18 : decode b_OF_cut 18 = .ok (.getfield 22, 3) ∧ 18 + 3 = 21 := ⟨by decide +kernel, rfl⟩
theorem dOF_cut_21 : decode b_OF_cut 21 = .ok (.iload_n 1, 1) ∧ 21 + 1 = 22 := ⟨by decide +kernel, rfl⟩
theorem dOF_cut_22 : decode b_OF_cut 22 = .ok (.putfield 134, 3) ∧ 22 + 3 = 25 := ⟨by decide +kernel, rfl⟩
theorem dOF_cut_25 : decode b_OF_cut 25 = .ok (.iconst 1, 1) ∧ 25 + 1 = 26 := ⟨by decide +kernel, rfl⟩
theorem dOF_cut_26 : decode b_OF_cut 26 = .ok (.ireturn, 1) ∧ 26 + 1 = 27 := ⟨by decide +kernel, rfl⟩
theorem dOF_spoil_0 : decode b_OF_spoil 0 = .ok (.aload_n 0, 1) ∧ 0 + 1 = 1 := ⟨by decide +kernel, rfl⟩
theorem dOF_spoil_1 : decode b_OF_spoil 1 = .ok (.getfield 22, 3) ∧ 1 + 3 = 4 := ⟨by decide +kernel, rfl⟩
theorem dOF_spoil_4 : decode b_OF_spoil 4 = .ok (.iload_n 1, 1) ∧ 4 + 1 = 5 := ⟨by decide +kernel, rfl⟩
theorem dOF_spoil_5 : decode b_OF_spoil 5 = .ok (.invokevirtual 137, 3) ∧ 5 + 3 = 8 := ⟨by decide +kernel, rfl⟩
theorem dOF_spoil_8 : decode b_OF_spoil 8 = .ok (.ifCond .ne (5), 3) ∧ 8 + 3 = 11 ∧ ((8 : Nat) : Int) + (5) = ((13 : Nat) : Int) := ⟨by decide +kernel, rfl, by decide⟩
theorem dOF_spoil_11 : decode b_OF_spoil 11 = .ok (.iconst (-1), 1) ∧ 11 + 1 = 12 := ⟨by decide +kernel, rfl⟩
theorem dOF_spoil_12 : decode b_OF_spoil 12 = .ok (.ireturn, 1) ∧ 12 + 1 = 13 := ⟨by decide +kernel, rfl⟩
theorem dOF_spoil_13 : decode b_OF_spoil 13 = .ok (.aload_n 0, 1) ∧ 13 + 1 = 14 := ⟨by decide +kernel, rfl⟩
theorem dOF_spoil_14 : decode b_OF_spoil 14 = .ok (.getfield 22, 3) ∧ 14 + 3 = 17 := ⟨by decide +kernel, rfl⟩
theorem dOF_spoil_17 : decode b_OF_spoil 17 = .ok (.iload_n 1, 1) ∧ 17 + 1 = 18 := ⟨by decide +kernel, rfl⟩
theorem dOF_spoil_18 : decode b_OF_spoil 18 = .ok (.invokevirtual 140, 3) ∧ 18 + 3 = 21 := ⟨by decide +kernel, rfl⟩
theorem dOF_spoil_21 : decode b_OF_spoil 21 = .ok (.istore_n 3, 1) ∧ 21 + 1 = 22 := ⟨by decide +kernel, rfl⟩
theorem dOF_spoil_22 : decode b_OF_spoil 22 = .ok (.aload_n 0, 1) ∧ 22 + 1 = 23 := ⟨by decide +kernel, rfl⟩
theorem dOF_spoil_23 : decode b_OF_spoil 23 = .ok (.getfield 22, 3) ∧ 23 + 3 = 26 := ⟨by decide +kernel, rfl⟩
theorem dOF_spoil_26 : decode b_OF_spoil 26 = .ok (.iload_n 1, 1) ∧ 26 + 1 = 27 := ⟨by decide +kernel, rfl⟩
theorem dOF_spoil_27 : decode b_OF_spoil 27 = .ok (.iload_n 2, 1) ∧ 27 + 1 = 28 := ⟨by decide +kernel, rfl⟩
theorem dOF_spoil_28 : decode b_OF_spoil 28 = .ok (.invokevirtual 147, 3) ∧ 28 + 3 = 31 := ⟨by decide +kernel, rfl⟩
theorem dOF_spoil_31 : decode b_OF_spoil 31 = .ok (.iload_n 3, 1) ∧ 31 + 1 = 32 := ⟨by decide +kernel, rfl⟩
theorem dOF_spoil_32 : decode b_OF_spoil 32 = .ok (.ireturn, 1) ∧ 32 + 1 = 33 := ⟨by decide +kernel, rfl⟩
theorem dFB_u2_0 : decode b_FB_u2 0 = .ok (.iload_n 1, 1) ∧ 0 + 1 = 1 := ⟨by decide +kernel, rfl⟩
theorem dFB_u2_1 : decode b_FB_u2 1 = .ok (.ifCond .lt (13), 3) ∧ 1 + 3 = 4 ∧ ((1 : Nat) : Int) + (13) = ((14 : Nat) : Int) := ⟨by decide +kernel, rfl, by decide⟩
theorem dFB_u2_4 : decode b_FB_u2 4 = .ok (.iload_n 1, 1) ∧ 4 + 1 = 5 := ⟨by decide +kernel, rfl⟩
theorem dFB_u2_5 : decode b_FB_u2 5 = .ok (.aload_n 0, 1) ∧ 5 + 1 = 6 := ⟨by decide +kernel, rfl⟩
theorem dFB_u2_6 : decode b_FB_u2 6 = .ok (.getfield 15, 3) ∧ 6 + 3 = 9 := ⟨by decide +kernel, rfl⟩
theorem dFB_u2_9 : decode b_FB_u2 9 = .ok (.iconst 1, 1) ∧ 9 + 1 = 10 := ⟨by decide +kernel, rfl⟩
theorem dFB_u2_10 : decode b_FB_u2 10 = .ok (.isub, 1) ∧ 10 + 1 = 11 := ⟨by decide +kernel, rfl⟩
theorem dFB_u2_11 : decode b_FB_u2 11 = .ok (.if_icmp .lt (7), 3) ∧ 11 + 3 = 14 ∧ ((11 : Nat) : Int) + (7) = ((18 : Nat) : Int) := ⟨by decide +kernel, rfl, by decide⟩
theorem dFB_u2_14 : decode b_FB_u2 14 = .ok (.iconst 0, 1) ∧ 14 + 1 = 15 := ⟨by decide +kernel, rfl⟩
theorem dFB_u2_15 : decode b_FB_u2 15 = .ok (.goto (29), 3) ∧ 15 + 3 = 18 ∧ ((15 : Nat) : Int) + (29) = ((44 : Nat) : Int) := ⟨by decide +kernel, rfl, by decide⟩
theorem dFB_u2_18 : decode b_FB_u2 18 = .ok (.aload_n 0, 1) ∧ 18 + 1 = 19 := ⟨by decide +kernel, rfl⟩
theorem dFB_u2_19 : decode b_FB_u2 19 = .ok (.getfield 9, 3) ∧ 19 + 3 = 22 := ⟨by decide +kernel, rfl⟩
theorem dFB_u2_22 : decode b_FB_u2 22 = .ok (.iload_n 1, 1) ∧ 22 + 1 = 23 := ⟨by decide +kernel, rfl⟩
theorem dFB_u2_23 : decode b_FB_u2 23 = .ok (.baload, 1) ∧ 23 + 1 = 24 := ⟨by decide +kernel, rfl⟩
theorem dFB_u2_24 : decode b_FB_u2 24 = .ok (.sipush (255), 3) ∧ 24 + 3 = 27 := ⟨by decide +kernel, rfl⟩
theorem dFB_u2_27 : decode b_FB_u2 27 = .ok (.iand, 1) ∧ 27 + 1 = 28 := ⟨by decide +kernel, rfl⟩
theorem dFB_u2_28 : decode b_FB_u2 28 = .ok (.aload_n 0, 1) ∧ 28 + 1 = 29 := ⟨by decide +kernel, rfl⟩
theorem dFB_u2_29 : decode b_FB_u2 29 = .ok (.getfield 9, 3) ∧ 29 + 3 = 32 := ⟨by decide +kernel, rfl⟩
theorem dFB_u2_32 : decode b_FB_u2 32 = .ok (.iload_n 1, 1) ∧ 32 + 1 = 33 := ⟨by decide +kernel, rfl⟩
theorem dFB_u2_33 : decode b_FB_u2 33 = .ok (.iconst 1, 1) ∧ 33 + 1 = 34 := ⟨by decide +kernel, rfl⟩
theorem dFB_u2_34 : decode b_FB_u2 34 = .ok (.iadd, 1) ∧ 34 + 1 = 35 := ⟨by decide +kernel, rfl⟩
theorem dFB_u2_35 : decode b_FB_u2 35 = .ok (.baload, 1) ∧ 35 + 1 = 36 := ⟨by decide +kernel, rfl⟩
theorem dFB_u2_36 : decode b_FB_u2 36 = .ok (.sipush (255), 3) ∧ 36 + 3 = 39 := ⟨by decide +kernel, rfl⟩
theorem dFB_u2_39 : decode b_FB_u2 39 = .ok (.iand, 1) ∧ 39 + 1 = 40 := ⟨by decide +kernel, rfl⟩
theorem dFB_u2_40 : decode b_FB_u2 40 = .ok (.bipush (8), 2) ∧ 40 + 2 = 42 := ⟨by decide +kernel, rfl⟩
theorem dFB_u2_42 : decode b_FB_u2 42 = .ok (.ishl, 1) ∧ 42 + 1 = 43 := ⟨by decide +kernel, rfl⟩
theorem dFB_u2_43 : decode b_FB_u2 43 = .ok (.ior, 1) ∧ 43 + 1 = 44 := ⟨by decide +kernel, rfl⟩
theorem dFB_u2_44 : decode b_FB_u2 44 = .ok (.ireturn, 1) ∧ 44 + 1 = 45 := ⟨by decide +kernel, rfl⟩
