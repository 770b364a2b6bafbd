theorem dDI_sectionOf_0 : decode b_DI_sectionOf 0 = .ok (.iload_n 1, 1) ∧ 0 + 1 = 1 := ⟨by decide +kernel, rfl⟩
theorem dDI_sectionOf_1 : decode b_DI_sectionOf 1 = .ok (.iconst 1, 1) ∧ 1 + 1 = 2 := ⟨by decide +kernel, rfl⟩
theorem dDI_sectionOf_2 : decode b_DI_sectionOf 2 = .ok (.if_icmp .lt (17), 3) ∧ 2 + 3 = 5 ∧ ((2 : Nat) : Int) + (17) = ((19 : Nat) : Int) := ⟨by decide +kernel, rfl, by decide⟩
theorem dDI_sectionOf_5 : decode b_DI_sectionOf 5 = .ok (.iload_n 1, 1) ∧ 5 + 1 = 6 := ⟨by decide +kernel, rfl⟩
theorem dDI_sectionOf_6 : decode b_DI_sectionOf 6 = .ok (.aload_n 0, 1) ∧ 6 + 1 = 7 := ⟨by decide +kernel, rfl⟩
theorem dDI_sectionOf_7 : decode b_DI_sectionOf 7 = .ok (.getfield 51, 3) ∧ 7 + 3 = 10 := ⟨by decide +kernel, rfl⟩
theorem dDI_sectionOf_10 : decode b_DI_sectionOf 10 = .ok (.if_icmp .ge (9), 3) ∧ 10 + 3 = 13 ∧ ((10 : Nat) : Int) + (9) = ((19 : Nat) : Int) := ⟨by decide +kernel, rfl, by decide⟩
theorem dDI_sectionOf_13 : decode b_DI_sectionOf 13 = .ok (.iload_n 1, 1) ∧ 13 + 1 = 14 := ⟨by decide +kernel, rfl⟩
theorem dDI_sectionOf_14 : decode b_DI_sectionOf 14 = .ok (.bipush (16), 2) ∧ 14 + 2 = 16 := ⟨by decide +kernel, rfl⟩
theorem dDI_sectionOf_16 : decode b_DI_sectionOf 16 = .ok (.if_icmp .lt (5), 3) ∧ 16 + 3 = 19 ∧ ((16 : Nat) : Int) + (5) = ((21 : Nat) : Int) := ⟨by decide +kernel, rfl, by decide⟩
theorem dDI_sectionOf_19 : decode b_DI_sectionOf 19 = .ok (.iconst (-1), 1) ∧ 19 + 1 = 20 := ⟨by decide +kernel, rfl⟩
theorem dDI_sectionOf_20 : decode b_DI_sectionOf 20 = .ok (.ireturn, 1) ∧ 20 + 1 = 21 := ⟨by decide +kernel, rfl⟩
theorem dDI_sectionOf_21 : decode b_DI_sectionOf 21 = .ok (.aload_n 0, 1) ∧ 21 + 1 = 22 := ⟨by decide +kernel, rfl⟩
theorem dDI_sectionOf_22 : decode b_DI_sectionOf 22 = .ok (.getfield 9, 3) ∧ 22 + 3 = 25 := ⟨by decide +kernel, rfl⟩
theorem dDI_sectionOf_25 : decode b_DI_sectionOf 25 = .ok (.iload_n 1, 1) ∧ 25 + 1 = 26 := ⟨by decide +kernel, rfl⟩
theorem dDI_sectionOf_26 : decode b_DI_sectionOf 26 = .ok (.iaload, 1) ∧ 26 + 1 = 27 := ⟨by decide +kernel, rfl⟩
theorem dDI_sectionOf_27 : decode b_DI_sectionOf 27 = .ok (.iconst 3, 1) ∧ 27 + 1 = 28 := ⟨by decide +kernel, rfl⟩
theorem dDI_sectionOf_28 : decode b_DI_sectionOf 28 = .ok (.if_icmp .gt (12), 3) ∧ 28 + 3 = 31 ∧ ((28 : Nat) : Int) + (12) = ((40 : Nat) : Int) := ⟨by decide +kernel, rfl, by decide⟩
theorem dDI_sectionOf_31 : decode b_DI_sectionOf 31 = .ok (.aload_n 0, 1) ∧ 31 + 1 = 32 := ⟨by decide +kernel, rfl⟩
theorem dDI_sectionOf_32 : decode b_DI_sectionOf 32 = .ok (.getfield 9, 3) ∧ 32 + 3 = 35 := ⟨by decide +kernel, rfl⟩
theorem dDI_sectionOf_35 : decode b_DI_sectionOf 35 = .ok (.iload_n 1, 1) ∧ 35 + 1 = 36 := ⟨by decide +kernel, rfl⟩
theorem dDI_sectionOf_36 : decode b_DI_sectionOf 36 = .ok (.iaload, 1) ∧ 36 + 1 = 37 := ⟨by decide +kernel, rfl⟩
theorem dDI_sectionOf_37 : decode b_DI_sectionOf 37 = .ok (.goto (4), 3) ∧ 37 + 3 = 40 ∧ ((37 : Nat) : Int) + (4) = ((41 : Nat) : Int) := ⟨by decide +kernel, rfl, by decide⟩
theorem dDI_sectionOf_40 : decode b_DI_sectionOf 40 = .ok (.iconst (-1), 1) ∧ 40 + 1 = 41 := ⟨by decide +kernel, rfl⟩
theorem dDI_sectionOf_41 : decode b_DI_sectionOf 41 = .ok (.ireturn, 1) ∧ 41 + 1 = 42 := ⟨by decide +kernel, rfl⟩
theorem dRE_whereOf_0 : decode b_RE_whereOf 0 = .ok (.aload_n 0, 1) ∧ 0 + 1 = 1 := ⟨by decide +kernel, rfl⟩
theorem dRE_whereOf_1 : decode b_RE_whereOf 1 = .ok (.getfield 9, 3) ∧ 1 + 3 = 4 := ⟨by decide +kernel, rfl⟩
theorem dRE_whereOf_4 : decode b_RE_whereOf 4 = .ok (.iload_n 1, 1) ∧ 4 + 1 = 5 := ⟨by decide +kernel, rfl⟩
theorem dRE_whereOf_5 : decode b_RE_whereOf 5 = .ok (.bipush (14), 2) ∧ 5 + 2 = 7 := ⟨by decide +kernel, rfl⟩
theorem dRE_whereOf_7 : decode b_RE_whereOf 7 = .ok (.iadd, 1) ∧ 7 + 1 = 8 := ⟨by decide +kernel, rfl⟩
theorem dRE_whereOf_8 : decode b_RE_whereOf 8 = .ok (.invokevirtual 106, 3) ∧ 8 + 3 = 11 := ⟨by decide +kernel, rfl⟩
theorem dRE_whereOf_11 : decode b_RE_whereOf 11 = .ok (.istore_n 2, 1) ∧ 11 + 1 = 12 := ⟨by decide +kernel, rfl⟩
theorem dRE_whereOf_12 : decode b_RE_whereOf 12 = .ok (.iload_n 2, 1) ∧ 12 + 1 = 13 := ⟨by decide +kernel, rfl⟩
theorem dRE_whereOf_13 : decode b_RE_whereOf 13 = .ok (.lookupswitch (41) #[(0, 35), (65521, 37), (65522, 39)], 35) ∧ True := ⟨by decide +kernel, trivial⟩
theorem dRE_whereOf_48 : decode b_RE_whereOf 48 = .ok (.iconst (-1), 1) ∧ 48 + 1 = 49 := ⟨by decide +kernel, rfl⟩
theorem dRE_whereOf_49 : decode b_RE_whereOf 49 = .ok (.ireturn, 1) ∧ 49 + 1 = 50 := ⟨by decide +kernel, rfl⟩
theorem dRE_whereOf_50 : decode b_RE_whereOf 50 = .ok (.iconst 4, 1) ∧ 50 + 1 = 51 := ⟨by decide +kernel, rfl⟩
theorem dRE_whereOf_51 : decode b_RE_whereOf 51 = .ok (.ireturn, 1) ∧ 51 + 1 = 52 := ⟨by decide +kernel, rfl⟩
theorem dRE_whereOf_52 : decode b_RE_whereOf 52 = .ok (.iconst 5, 1) ∧ 52 + 1 = 53 := ⟨by decide +kernel, rfl⟩
theorem dRE_whereOf_53 : decode b_RE_whereOf 53 = .ok (.ireturn, 1) ∧ 53 + 1 = 54 := ⟨by decide +kernel, rfl⟩
theorem dRE_whereOf_54 : decode b_RE_whereOf 54 = .ok (.aload_n 0, 1) ∧ 54 + 1 = 55 := ⟨by decide +kernel, rfl⟩
theorem dRE_whereOf_55 : decode b_RE_whereOf 55 = .ok (.getfield 19, 3) ∧ 55 + 3 = 58 := ⟨by decide +kernel, rfl⟩
theorem dRE_whereOf_58 : decode b_RE_whereOf 58 = .ok (.iload_n 2, 1) ∧ 58 + 1 = 59 := ⟨by decide +kernel, rfl⟩
theorem dRE_whereOf_59 : decode b_RE_whereOf 59 = .ok (.invokevirtual 109, 3) ∧ 59 + 3 = 62 := ⟨by decide +kernel, rfl⟩
theorem dRE_whereOf_62 : decode b_RE_whereOf 62 = .ok (.istore_n 3, 1) ∧ 62 + 1 = 63 := ⟨by decide +kernel, rfl⟩
theorem dRE_whereOf_63 : decode b_RE_whereOf 63 = .ok (.iload_n 3, 1) ∧ 63 + 1 = 64 := ⟨by decide +kernel, rfl⟩
theorem dRE_whereOf_64 : decode b_RE_whereOf 64 = .ok (.iconst (-1), 1) ∧ 64 + 1 = 65 := ⟨by decide +kernel, rfl⟩
theorem dRE_whereOf_65 : decode b_RE_whereOf 65 = .ok (.if_icmp .ne (8), 3) ∧ 65 + 3 = 68 ∧ ((65 : Nat) : Int) + (8) = ((73 : Nat) : Int) := ⟨by decide +kernel, rfl, by decide⟩
theorem dRE_whereOf_68 : decode b_RE_whereOf 68 = .ok (.bipush (6), 2) ∧ 68 + 2 = 70 := ⟨by decide +kernel, rfl⟩
theorem dRE_whereOf_70 : decode b_RE_whereOf 70 = .ok (.goto (4), 3) ∧ 70 + 3 = 73 ∧ ((70 : Nat) : Int) + (4) = ((74 : Nat) : Int) := ⟨by decide +kernel, rfl, by decide⟩
theorem dRE_whereOf_73 : decode b_RE_whereOf 73 = .ok (.iload_n 3, 1) ∧ 73 + 1 = 74 := ⟨by decide +kernel, rfl⟩
theorem dRE_whereOf_74 : decode b_RE_whereOf 74 = .ok (.ireturn, 1) ∧ 74 + 1 = 75 := ⟨by decide +kernel, rfl⟩
theorem dRE_bindOf_0 : decode b_RE_bindOf 0 = .ok (.aload_n 0, 1) ∧ 0 + 1 = 1 := ⟨by decide +kernel, rfl⟩
theorem dRE_bindOf_1 : decode b_RE_bindOf 1 = .ok (.getfield 9, 3) ∧ 1 + 3 = 4 := ⟨by decide +kernel, rfl⟩
theorem dRE_bindOf_4 : decode b_RE_bindOf 4 = .ok (.iload_n 1, 1) ∧ 4 + 1 = 5 := ⟨by decide +kernel, rfl⟩
theorem dRE_bindOf_5 : decode b_RE_bindOf 5 = .ok (.bipush (12), 2) ∧ 5 + 2 = 7 := ⟨by decide +kernel, rfl⟩
theorem dRE_bindOf_7 : decode b_RE_bindOf 7 = .ok (.iadd, 1) ∧ 7 + 1 = 8 := ⟨by decide +kernel, rfl⟩
theorem dRE_bindOf_8 : decode b_RE_bindOf 8 = .ok (.invokevirtual 42, 3) ∧ 8 + 3 = 11 := ⟨by decide +kernel, rfl⟩
theorem dRE_bindOf_11 : decode b_RE_bindOf 11 = .ok (.iconst 4, 1) ∧ 11 + 1 = 12 := ⟨by decide +kernel, rfl⟩
theorem dRE_bindOf_12 : decode b_RE_bindOf 12 = .ok (.iushr, 1) ∧ 12 + 1 = 13 := ⟨by decide +kernel, rfl⟩
theorem dRE_bindOf_13 : decode b_RE_bindOf 13 = .ok (.ireturn, 1) ∧ 13 + 1 = 14 := ⟨by decide +kernel, rfl⟩
theorem dRE_typeOf_0 : decode b_RE_typeOf 0 = .ok (.aload_n 0, 1) ∧ 0 + 1 = 1 := ⟨by decide +kernel, rfl⟩
theorem dRE_typeOf_1 : decode b_RE_typeOf 1 = .ok (.getfield 9, 3) ∧ 1 + 3 = 4 := ⟨by decide +kernel, rfl⟩
theorem dRE_typeOf_4 : decode b_RE_typeOf 4 = .ok (.iload_n 1, 1) ∧ 4 + 1 = 5 := ⟨by decide +kernel, rfl⟩
theorem dRE_typeOf_5 : decode b_RE_typeOf 5 = .ok (.bipush (12), 2) ∧ 5 + 2 = 7 := ⟨by decide +kernel, rfl⟩
theorem dRE_typeOf_7 : decode b_RE_typeOf 7 = .ok (.iadd, 1) ∧ 7 + 1 = 8 := ⟨by decide +kernel, rfl⟩
theorem dRE_typeOf_8 : decode b_RE_typeOf 8 = .ok (.invokevirtual 42, 3) ∧ 8 + 3 = 11 := ⟨by decide +kernel, rfl⟩
theorem dRE_typeOf_11 : decode b_RE_typeOf 11 = .ok (.bipush (15), 2) ∧ 11 + 2 = 13 := ⟨by decide +kernel, rfl⟩
theorem dRE_typeOf_13 : decode b_RE_typeOf 13 = .ok (.iand, 1) ∧ 13 + 1 = 14 := ⟨by decide +kernel, rfl⟩
theorem dRE_typeOf_14 : decode b_RE_typeOf 14 = .ok (.ireturn, 1) ∧ 14 + 1 = 15 := ⟨by decide +kernel, rfl⟩
theorem dRE_fillSymbol_0 : decode b_RE_fillSymbol 0 = .ok (.aload_n 1, 1) ∧ 0 + 1 = 1 := ⟨by decide +kernel, rfl⟩
theorem dRE_fillSymbol_1 : decode b_RE_fillSymbol 1 = .ok (.aload_n 0, 1) ∧ 1 + 1 = 2 := ⟨by decide +kernel, rfl⟩
theorem dRE_fillSymbol_2 : decode b_RE_fillSymbol 2 = .ok (.getfield 9, 3) ∧ 2 + 3 = 5 := ⟨by decide +kernel, rfl⟩
theorem dRE_fillSymbol_5 : decode b_RE_fillSymbol 5 = .ok (.getfield 170, 3) ∧ 5 + 3 = 8 := ⟨by decide +kernel, rfl⟩
theorem dRE_fillSymbol_8 : decode b_RE_fillSymbol 8 = .ok (.aload_n 0, 1) ∧ 8 + 1 = 9 := ⟨by decide +kernel, rfl⟩
theorem dRE_fillSymbol_9 : decode b_RE_fillSymbol 9 = .ok (.iload_n 2, 1) ∧ 9 + 1 = 10 := ⟨by decide +kernel, rfl⟩
theorem dRE_fillSymbol_10 : decode b_RE_fillSymbol 10 = .ok (.invokevirtual 112, 3) ∧ 10 + 3 = 13 := ⟨by decide +kernel, rfl⟩
theorem dRE_fillSymbol_13 : decode b_RE_fillSymbol 13 = .ok (.aload_n 0, 1) ∧ 13 + 1 = 14 := ⟨by decide +kernel, rfl⟩
theorem dRE_fillSymbol_14 : decode b_RE_fillSymbol 14 = .ok (.iload_n 2, 1) ∧ 14 + 1 = 15 := ⟨by decide +kernel, rfl⟩
theorem dRE_fillSymbol_15 : decode b_RE_fillSymbol 15 = .ok (.invokevirtual 75, 3) ∧ 15 + 3 = 18 := ⟨by decide +kernel, rfl⟩
theorem dRE_fillSymbol_18 : decode b_RE_fillSymbol 18 = .ok (.invokevirtual 173, 3) ∧ 18 + 3 = 21 := ⟨by decide +kernel, rfl⟩
theorem dRE_fillSymbol_21 : decode b_RE_fillSymbol 21 = .ok (.istore_n 3, 1) ∧ 21 + 1 = 22 := ⟨by decide +kernel, rfl⟩
theorem dRE_fillSymbol_22 : decode b_RE_fillSymbol 22 = .ok (.aload_n 0, 1) ∧ 22 + 1 = 23 := ⟨by decide +kernel, rfl⟩
theorem dRE_fillSymbol_23 : decode b_RE_fillSymbol 23 = .ok (.getfield 9, 3) ∧ 23 + 3 = 26 := ⟨by decide +kernel, rfl⟩
theorem dRE_fillSymbol_26 : decode b_RE_fillSymbol 26 = .ok (.iload_n 2, 1) ∧ 26 + 1 = 27 := ⟨by decide +kernel, rfl⟩
theorem dRE_fillSymbol_27 : decode b_RE_fillSymbol 27 = .ok (.iconst 4, 1) ∧ 27 + 1 = 28 := ⟨by decide +kernel, rfl⟩
theorem dRE_fillSymbol_28 : decode b_RE_fillSymbol 28 = .ok (.iadd, 1) ∧ 28 + 1 = 29 := ⟨by decide +kernel, rfl⟩
theorem dRE_fillSymbol_29 : decode b_RE_fillSymbol 29 = .ok (.invokevirtual 98, 3) ∧ 29 + 3 = 32 := ⟨by decide +kernel, rfl⟩
theorem dRE_fillSymbol_32 : decode b_RE_fillSymbol 32 = .ok (.l2i, 1) ∧ 32 + 1 = 33 := ⟨by decide +kernel, rfl⟩
theorem dRE_fillSymbol_33 : decode b_RE_fillSymbol 33 = .ok (.istore 4, 2) ∧ 33 + 2 = 35 := ⟨by decide +kernel, rfl⟩
theorem dRE_fillSymbol_35 : decode b_RE_fillSymbol 35 = .ok (.aload_n 0, 1) ∧ 35 + 1 = 36 := ⟨by decide +kernel, rfl⟩
theorem dRE_fillSymbol_36 : decode b_RE_fillSymbol 36 = .ok (.getfield 9, 3) ∧ 36 + 3 = 39 := ⟨by decide +kernel, rfl⟩
theorem dRE_fillSymbol_39 : decode b_RE_fillSymbol 39 = .ok (.iload_n 2, 1) ∧ 39 + 1 = 40 := ⟨by decide +kernel, rfl⟩
theorem dRE_fillSymbol_40 : decode b_RE_fillSymbol 40 = .ok (.bipush (8), 2) ∧ 40 + 2 = 42 := ⟨by decide +kernel, rfl⟩
theorem dRE_fillSymbol_42 : decode b_RE_fillSymbol 42 = .ok (.iadd, 1) ∧ 42 + 1 = 43 := ⟨by decide +kernel, rfl⟩
theorem dRE_fillSymbol_43 : decode b_RE_fillSymbol 43 = .ok (.invokevirtual 98, 3) ∧ 43 + 3 = 46 := ⟨by decide +kernel, rfl⟩
theorem dRE_fillSymbol_46 : decode b_RE_fillSymbol 46 = .ok (.l2i, 1) ∧ 46 + 1 = 47 := ⟨by decide +kernel, rfl⟩
theorem dRE_fillSymbol_47 : decode b_RE_fillSymbol 47 = .ok (.istore 5, 2) ∧ 47 + 2 = 49 := ⟨by decide +kernel, rfl⟩
theorem dRE_fillSymbol_49 : decode b_RE_fillSymbol 49 = .ok (.aload_n 1, 1) ∧ 49 + 1 = 50 := ⟨by decide +kernel, rfl⟩
theorem dRE_fillSymbol_50 : decode b_RE_fillSymbol 50 = .ok (.iload_n 3, 1) ∧ 50 + 1 = 51 := ⟨by decide +kernel, rfl⟩
theorem dRE_fillSymbol_51 : decode b_RE_fillSymbol 51 = .ok (.aload_n 0, 1) ∧ 51 + 1 = 52 := ⟨by decide +kernel, rfl⟩
theorem dRE_fillSymbol_52 : decode b_RE_fillSymbol 52 = .ok (.iload_n 2, 1) ∧ 52 + 1 = 53 := ⟨by decide +kernel, rfl⟩
theorem dRE_fillSymbol_53 : decode b_RE_fillSymbol 53 = .ok (.invokevirtual 88, 3) ∧ 53 + 3 = 56 := ⟨by decide +kernel, rfl⟩
theorem dRE_fillSymbol_56 : decode b_RE_fillSymbol 56 = .ok (.iload 4, 2) ∧ 56 + 2 = 58 := ⟨by decide +kernel, rfl⟩
theorem dRE_fillSymbol_58 : decode b_RE_fillSymbol 58 = .ok (.iload 5, 2) ∧ 58 + 2 = 60 := ⟨by decide +kernel, rfl⟩
theorem dRE_fillSymbol_60 : decode b_RE_fillSymbol 60 = .ok (.aload_n 0, 1) ∧ 60 + 1 = 61 := ⟨by decide +kernel, rfl⟩
theorem dRE_fillSymbol_61 : decode b_RE_fillSymbol 61 = .ok (.iload_n 2, 1) ∧ 61 + 1 = 62 := ⟨by decide +kernel, rfl⟩
theorem dRE_fillSymbol_62 : decode b_RE_fillSymbol 62 = .ok (.invokevirtual 78, 3) ∧ 62 + 3 = 65 := ⟨by decide +kernel, rfl⟩
theorem dRE_fillSymbol_65 : decode b_RE_fillSymbol 65 = .ok (.aload_n 0, 1) ∧ 65 + 1 = 66 := ⟨by decide +kernel, rfl⟩
theorem dRE_fillSymbol_66 : decode b_RE_fillSymbol 66 = .ok (.iload_n 2, 1) ∧ 66 + 1 = 67 := ⟨by decide +kernel, rfl⟩
theorem dRE_fillSymbol_67 : decode b_RE_fillSymbol 67 = .ok (.invokevirtual 85, 3) ∧ 67 + 3 = 70 := ⟨by decide +kernel, rfl⟩
theorem dRE_fillSymbol_70 : decode b_RE_fillSymbol 70 = .ok (.invokevirtual 177, 3) ∧ 70 + 3 = 73 := ⟨by decide +kernel, rfl⟩
theorem dRE_fillSymbol_73 : decode b_RE_fillSymbol 73 = .ok (.return_, 1) ∧ 73 + 1 = 74 := ⟨by decide +kernel, rfl⟩
theorem dFB_copyOut_0 : decode b_FB_copyOut 0 = .ok (.iload 4, 2) ∧ 0 + 2 = 2 := ⟨by decide +kernel, rfl⟩
theorem dFB_copyOut_2 : decode b_FB_copyOut 2 = .ok (.ifCond .le (43), 3) ∧ 2 + 3 = 5 ∧ ((2 : Nat) : Int) + (43) = ((45 : Nat) : Int) := ⟨by decide +kernel, rfl, by decide⟩
theorem dFB_copyOut_5 : decode b_FB_copyOut 5 = .ok (.iload_n 3, 1) ∧ 5 + 1 = 6 := ⟨by decide +kernel, rfl⟩
theorem dFB_copyOut_6 : decode b_FB_copyOut 6 = .ok (.ifCond .lt (39), 3) ∧ 6 + 3 = 9 ∧ ((6 : Nat) : Int) + (39) = ((45 : Nat) : Int) := ⟨by decide +kernel, rfl, by decide⟩
theorem dFB_copyOut_9 : decode b_FB_copyOut 9 = .ok (.iload_n 3, 1) ∧ 9 + 1 = 10 := ⟨by decide +kernel, rfl⟩
theorem dFB_copyOut_10 : decode b_FB_copyOut 10 = .ok (.aload_n 2, 1) ∧ 10 + 1 = 11 := ⟨by decide +kernel, rfl⟩
theorem dFB_copyOut_11 : decode b_FB_copyOut 11 = .ok (.arraylength, 1) ∧ 11 + 1 = 12 := ⟨by decide +kernel, rfl⟩
theorem dFB_copyOut_12 : decode b_FB_copyOut 12 = .ok (.iload 4, 2) ∧ 12 + 2 = 14 := ⟨by decide +kernel, rfl⟩
theorem dFB_copyOut_14 : decode b_FB_copyOut 14 = .ok (.isub, 1) ∧ 14 + 1 = 15 := ⟨by decide +kernel, rfl⟩
theorem dFB_copyOut_15 : decode b_FB_copyOut 15 = .ok (.if_icmp .gt (30), 3) ∧ 15 + 3 = 18 ∧ ((15 : Nat) : Int) + (30) = ((45 : Nat) : Int) := ⟨by decide +kernel, rfl, by decide⟩
theorem dFB_copyOut_18 : decode b_FB_copyOut 18 = .ok (.iload_n 1, 1) ∧ 18 + 1 = 19 := ⟨by decide +kernel, rfl⟩
theorem dFB_copyOut_19 : decode b_FB_copyOut 19 = .ok (.ifCond .lt (26), 3) ∧ 19 + 3 = 22 ∧ ((19 : Nat) : Int) + (26) = ((45 : Nat) : Int) := ⟨by decide +kernel, rfl, by decide⟩
theorem dFB_copyOut_22 : decode b_FB_copyOut 22 = .ok (.iload_n 1, 1) ∧ 22 + 1 = 23 := ⟨by decide +kernel, rfl⟩
theorem dFB_copyOut_23 : decode b_FB_copyOut 23 = .ok (.aload_n 0, 1) ∧ 23 + 1 = 24 := ⟨by decide +kernel, rfl⟩
theorem dFB_copyOut_24 : decode b_FB_copyOut 24 = .ok (.getfield 15, 3) ∧ 24 + 3 = 27 := ⟨by decide +kernel, rfl⟩
theorem dFB_copyOut_27 : decode b_FB_copyOut 27 = .ok (.iload 4, 2) ∧ 27 + 2 = 29 := ⟨by decide +kernel, rfl⟩
theorem dFB_copyOut_29 : decode b_FB_copyOut 29 = .ok (.isub, 1) ∧ 29 + 1 = 30 := ⟨by decide +kernel, rfl⟩
theorem dFB_copyOut_30 : decode b_FB_copyOut 30 = .ok (.if_icmp .gt (15), 3) ∧ 30 + 3 = 33 ∧ ((30 : Nat) : Int) + (15) = ((45 : Nat) : Int) := ⟨by decide +kernel, rfl, by decide⟩
theorem dFB_copyOut_33 : decode b_FB_copyOut 33 = .ok (.aload_n 0, 1) ∧ 33 + 1 = 34 := ⟨by decide +kernel, rfl⟩
theorem dFB_copyOut_34 : decode b_FB_copyOut 34 = .ok (.getfield 9, 3) ∧ 34 + 3 = 37 := ⟨by decide +kernel, rfl⟩
theorem dFB_copyOut_37 : decode b_FB_copyOut 37 = .ok (.iload_n 1, 1) ∧ 37 + 1 = 38 := ⟨by decide +kernel, rfl⟩
theorem dFB_copyOut_38 : decode b_FB_copyOut 38 = .ok (.aload_n 2, 1) ∧ 38 + 1 = 39 := ⟨by decide +kernel, rfl⟩
theorem dFB_copyOut_39 : decode b_FB_copyOut 39 = .ok (.iload_n 3, 1) ∧ 39 + 1 = 40 := ⟨by decide +kernel, rfl⟩
theorem dFB_copyOut_40 : decode b_FB_copyOut 40 = .ok (.iload 4, 2) ∧ 40 + 2 = 42 := ⟨by decide +kernel, rfl⟩
theorem dFB_copyOut_42 : decode b_FB_copyOut 42 = .ok (.invokestatic 25, 3) ∧ 42 + 3 = 45 := ⟨by decide +kernel, rfl⟩
theorem dFB_copyOut_45 : decode b_FB_copyOut 45 = .ok (.return_, 1) ∧ 45 + 1 = 46 := ⟨by decide +kernel, rfl⟩
theorem dRE_fill_0 : decode b_RE_fill 0 = .ok (.aload_n 1, 1) ∧ 0 + 1 = 1 := ⟨by decide +kernel, rfl⟩
theorem dRE_fill_1 : decode b_RE_fill 1 = .ok (.invokevirtual 142, 3) ∧ 1 + 3 = 4 := ⟨by decide +kernel, rfl⟩
theorem dRE_fill_4 : decode b_RE_fill 4 = .ok (.iconst 0, 1) ∧ 4 + 1 = 5 := ⟨by decide +kernel, rfl⟩
theorem dRE_fill_5 : decode b_RE_fill 5 = .ok (.istore_n 2, 1) ∧ 5 + 1 = 6 := ⟨by decide +kernel, rfl⟩
theorem dRE_fill_6 : decode b_RE_fill 6 = .ok (.iload_n 2, 1) ∧ 6 + 1 = 7 := ⟨by decide +kernel, rfl⟩
theorem dRE_fill_7 : decode b_RE_fill 7 = .ok (.iconst 3, 1) ∧ 7 + 1 = 8 := ⟨by decide +kernel, rfl⟩
theorem dRE_fill_8 : decode b_RE_fill 8 = .ok (.if_icmp .gt (39), 3) ∧ 8 + 3 = 11 ∧ ((8 : Nat) : Int) + (39) = ((47 : Nat) : Int) := ⟨by decide +kernel, rfl, by decide⟩
theorem dRE_fill_11 : decode b_RE_fill 11 = .ok (.aload_n 1, 1) ∧ 11 + 1 = 12 := ⟨by decide +kernel, rfl⟩
theorem dRE_fill_12 : decode b_RE_fill 12 = .ok (.getfield 147, 3) ∧ 12 + 3 = 15 := ⟨by decide +kernel, rfl⟩
theorem dRE_fill_15 : decode b_RE_fill 15 = .ok (.iload_n 2, 1) ∧ 15 + 1 = 16 := ⟨by decide +kernel, rfl⟩
theorem dRE_fill_16 : decode b_RE_fill 16 = .ok (.aload_n 0, 1) ∧ 16 + 1 = 17 := ⟨by decide +kernel, rfl⟩
theorem dRE_fill_17 : decode b_RE_fill 17 = .ok (.getfield 19, 3) ∧ 17 + 3 = 20 := ⟨by decide +kernel, rfl⟩
theorem dRE_fill_20 : decode b_RE_fill 20 = .ok (.getfield 33, 3) ∧ 20 + 3 = 23 := ⟨by decide +kernel, rfl⟩
theorem dRE_fill_23 : decode b_RE_fill 23 = .ok (.iload_n 2, 1) ∧ 23 + 1 = 24 := ⟨by decide +kernel, rfl⟩
theorem dRE_fill_24 : decode b_RE_fill 24 = .ok (.iaload, 1) ∧ 24 + 1 = 25 := ⟨by decide +kernel, rfl⟩
theorem dRE_fill_25 : decode b_RE_fill 25 = .ok (.iastore, 1) ∧ 25 + 1 = 26 := ⟨by decide +kernel, rfl⟩
theorem dRE_fill_26 : decode b_RE_fill 26 = .ok (.aload_n 1, 1) ∧ 26 + 1 = 27 := ⟨by decide +kernel, rfl⟩
theorem dRE_fill_27 : decode b_RE_fill 27 = .ok (.getfield 148, 3) ∧ 27 + 3 = 30 := ⟨by decide +kernel, rfl⟩
theorem dRE_fill_30 : decode b_RE_fill 30 = .ok (.iload_n 2, 1) ∧ 30 + 1 = 31 := ⟨by decide +kernel, rfl⟩
theorem dRE_fill_31 : decode b_RE_fill 31 = .ok (.aload_n 0, 1) ∧ 31 + 1 = 32 := ⟨by decide +kernel, rfl⟩
theorem dRE_fill_32 : decode b_RE_fill 32 = .ok (.getfield 19, 3) ∧ 32 + 3 = 35 := ⟨by decide +kernel, rfl⟩
theorem dRE_fill_35 : decode b_RE_fill 35 = .ok (.getfield 151, 3) ∧ 35 + 3 = 38 := ⟨by decide +kernel, rfl⟩
theorem dRE_fill_38 : decode b_RE_fill 38 = .ok (.iload_n 2, 1) ∧ 38 + 1 = 39 := ⟨by decide +kernel, rfl⟩
theorem dRE_fill_39 : decode b_RE_fill 39 = .ok (.iaload, 1) ∧ 39 + 1 = 40 := ⟨by decide +kernel, rfl⟩
theorem dRE_fill_40 : decode b_RE_fill 40 = .ok (.iastore, 1) ∧ 40 + 1 = 41 := ⟨by decide +kernel, rfl⟩
theorem dRE_fill_41 : decode b_RE_fill 41 = .ok (.iinc 2 (1), 3) ∧ 41 + 3 = 44 := ⟨by decide +kernel, rfl⟩
theorem dRE_fill_44 : decode b_RE_fill 44 = .ok (.goto (-38), 3) ∧ 44 + 3 = 47 ∧ ((44 : Nat) : Int) + (-38) = ((6 : Nat) : Int) := ⟨by decide +kernel, rfl, by decide⟩
theorem dRE_fill_47 : decode b_RE_fill 47 = .ok (.iconst 0, 1) ∧ 47 + 1 = 48 := ⟨by decide +kernel, rfl⟩
theorem dRE_fill_48 : decode b_RE_fill 48 = .ok (.istore_n 2, 1) ∧ 48 + 1 = 49 := ⟨by decide +kernel, rfl⟩
theorem dRE_fill_49 : decode b_RE_fill 49 = .ok (.iload_n 2, 1) ∧ 49 + 1 = 50 := ⟨by decide +kernel, rfl⟩
theorem dRE_fill_50 : decode b_RE_fill 50 = .ok (.iconst 2, 1) ∧ 50 + 1 = 51 := ⟨by decide +kernel, rfl⟩
theorem dRE_fill_51 : decode b_RE_fill 51 = .ok (.if_icmp .gt (43), 3) ∧ 51 + 3 = 54 ∧ ((51 : Nat) : Int) + (43) = ((94 : Nat) : Int) := ⟨by decide +kernel, rfl, by decide⟩
theorem dRE_fill_54 : decode b_RE_fill 54 = .ok (.aload_n 0, 1) ∧ 54 + 1 = 55 := ⟨by decide +kernel, rfl⟩
theorem dRE_fill_55 : decode b_RE_fill 55 = .ok (.getfield 9, 3) ∧ 55 + 3 = 58 := ⟨by decide +kernel, rfl⟩
theorem dRE_fill_58 : decode b_RE_fill 58 = .ok (.aload_n 0, 1) ∧ 58 + 1 = 59 := ⟨by decide +kernel, rfl⟩
theorem dRE_fill_59 : decode b_RE_fill 59 = .ok (.getfield 19, 3) ∧ 59 + 3 = 62 := ⟨by decide +kernel, rfl⟩
theorem dRE_fill_62 : decode b_RE_fill 62 = .ok (.getfield 39, 3) ∧ 62 + 3 = 65 := ⟨by decide +kernel, rfl⟩
theorem dRE_fill_65 : decode b_RE_fill 65 = .ok (.iload_n 2, 1) ∧ 65 + 1 = 66 := ⟨by decide +kernel, rfl⟩
theorem dRE_fill_66 : decode b_RE_fill 66 = .ok (.iaload, 1) ∧ 66 + 1 = 67 := ⟨by decide +kernel, rfl⟩
theorem dRE_fill_67 : decode b_RE_fill 67 = .ok (.aload_n 1, 1) ∧ 67 + 1 = 68 := ⟨by decide +kernel, rfl⟩
theorem dRE_fill_68 : decode b_RE_fill 68 = .ok (.getfield 152, 3) ∧ 68 + 3 = 71 := ⟨by decide +kernel, rfl⟩
theorem dRE_fill_71 : decode b_RE_fill 71 = .ok (.iload_n 2, 1) ∧ 71 + 1 = 72 := ⟨by decide +kernel, rfl⟩
theorem dRE_fill_72 : decode b_RE_fill 72 = .ok (.sipush (2048), 3) ∧ 72 + 3 = 75 := ⟨by decide +kernel, rfl⟩
theorem dRE_fill_75 : decode b_RE_fill 75 = .ok (.imul, 1) ∧ 75 + 1 = 76 := ⟨by decide +kernel, rfl⟩
theorem dRE_fill_76 : decode b_RE_fill 76 = .ok (.aload_n 0, 1) ∧ 76 + 1 = 77 := ⟨by decide +kernel, rfl⟩
theorem dRE_fill_77 : decode b_RE_fill 77 = .ok (.getfield 19, 3) ∧ 77 + 3 = 80 := ⟨by decide +kernel, rfl⟩
theorem dRE_fill_80 : decode b_RE_fill 80 = .ok (.getfield 33, 3) ∧ 80 + 3 = 83 := ⟨by decide +kernel, rfl⟩
theorem dRE_fill_83 : decode b_RE_fill 83 = .ok (.iload_n 2, 1) ∧ 83 + 1 = 84 := ⟨by decide +kernel, rfl⟩
theorem dRE_fill_84 : decode b_RE_fill 84 = .ok (.iaload, 1) ∧ 84 + 1 = 85 := ⟨by decide +kernel, rfl⟩
theorem dRE_fill_85 : decode b_RE_fill 85 = .ok (.invokevirtual 156, 3) ∧ 85 + 3 = 88 := ⟨by decide +kernel, rfl⟩
theorem dRE_fill_88 : decode b_RE_fill 88 = .ok (.iinc 2 (1), 3) ∧ 88 + 3 = 91 := ⟨by decide +kernel, rfl⟩
theorem dRE_fill_91 : decode b_RE_fill 91 = .ok (.goto (-42), 3) ∧ 91 + 3 = 94 ∧ ((91 : Nat) : Int) + (-42) = ((49 : Nat) : Int) := ⟨by decide +kernel, rfl, by decide⟩
theorem dRE_fill_94 : decode b_RE_fill 94 = .ok (.aload_n 0, 1) ∧ 94 + 1 = 95 := ⟨by decide +kernel, rfl⟩
theorem dRE_fill_95 : decode b_RE_fill 95 = .ok (.getfield 19, 3) ∧ 95 + 3 = 98 := ⟨by decide +kernel, rfl⟩
theorem dRE_fill_98 : decode b_RE_fill 98 = .ok (.getfield 39, 3) ∧ 98 + 3 = 101 := ⟨by decide +kernel, rfl⟩
theorem dRE_fill_101 : decode b_RE_fill 101 = .ok (.iconst 4, 1) ∧ 101 + 1 = 102 := ⟨by decide +kernel, rfl⟩
theorem dRE_fill_102 : decode b_RE_fill 102 = .ok (.iaload, 1) ∧ 102 + 1 = 103 := ⟨by decide +kernel, rfl⟩
theorem dRE_fill_103 : decode b_RE_fill 103 = .ok (.istore_n 2, 1) ∧ 103 + 1 = 104 := ⟨by decide +kernel, rfl⟩
theorem dRE_fill_104 : decode b_RE_fill 104 = .ok (.iload_n 2, 1) ∧ 104 + 1 = 105 := ⟨by decide +kernel, rfl⟩
theorem dRE_fill_105 : decode b_RE_fill 105 = .ok (.aload_n 0, 1) ∧ 105 + 1 = 106 := ⟨by decide +kernel, rfl⟩
theorem dRE_fill_106 : decode b_RE_fill 106 = .ok (.getfield 19, 3) ∧ 106 + 3 = 109 := ⟨by decide +kernel, rfl⟩
theorem dRE_fill_109 : decode b_RE_fill 109 = .ok (.getfield 33, 3) ∧ 109 + 3 = 112 := ⟨by decide +kernel, rfl⟩
theorem dRE_fill_112 : decode b_RE_fill 112 = .ok (.iconst 4, 1) ∧ 112 + 1 = 113 := ⟨by decide +kernel, rfl⟩
theorem dRE_fill_113 : decode b_RE_fill 113 = .ok (.iaload, 1) ∧ 113 + 1 = 114 := ⟨by decide +kernel, rfl⟩
theorem dRE_fill_114 : decode b_RE_fill 114 = .ok (.iadd, 1) ∧ 114 + 1 = 115 := ⟨by decide +kernel, rfl⟩
theorem dRE_fill_115 : decode b_RE_fill 115 = .ok (.istore_n 3, 1) ∧ 115 + 1 = 116 := ⟨by decide +kernel, rfl⟩
theorem dRE_fill_116 : decode b_RE_fill 116 = .ok (.iload_n 2, 1) ∧ 116 + 1 = 117 := ⟨by decide +kernel, rfl⟩
theorem dRE_fill_117 : decode b_RE_fill 117 = .ok (.istore 4, 2) ∧ 117 + 2 = 119 := ⟨by decide +kernel, rfl⟩
theorem dRE_fill_119 : decode b_RE_fill 119 = .ok (.iload 4, 2) ∧ 119 + 2 = 121 := ⟨by decide +kernel, rfl⟩
theorem dRE_fill_121 : decode b_RE_fill 121 = .ok (.iload_n 3, 1) ∧ 121 + 1 = 122 := ⟨by decide +kernel, rfl⟩
theorem dRE_fill_122 : decode b_RE_fill 122 = .ok (.if_icmp .ge (23), 3) ∧ 122 + 3 = 125 ∧ ((122 : Nat) : Int) + (23) = ((145 : Nat) : Int) := ⟨by decide +kernel, rfl, by decide⟩
theorem dRE_fill_125 : decode b_RE_fill 125 = .ok (.aload_n 1, 1) ∧ 125 + 1 = 126 := ⟨by decide +kernel, rfl⟩
theorem dRE_fill_126 : decode b_RE_fill 126 = .ok (.aload_n 0, 1) ∧ 126 + 1 = 127 := ⟨by decide +kernel, rfl⟩
theorem dRE_fill_127 : decode b_RE_fill 127 = .ok (.getfield 9, 3) ∧ 127 + 3 = 130 := ⟨by decide +kernel, rfl⟩
theorem dRE_fill_130 : decode b_RE_fill 130 = .ok (.iload 4, 2) ∧ 130 + 2 = 132 := ⟨by decide +kernel, rfl⟩
theorem dRE_fill_132 : decode b_RE_fill 132 = .ok (.invokevirtual 106, 3) ∧ 132 + 3 = 135 := ⟨by decide +kernel, rfl⟩
theorem dRE_fill_135 : decode b_RE_fill 135 = .ok (.invokevirtual 160, 3) ∧ 135 + 3 = 138 := ⟨by decide +kernel, rfl⟩
theorem dRE_fill_138 : decode b_RE_fill 138 = .ok (.pop, 1) ∧ 138 + 1 = 139 := ⟨by decide +kernel, rfl⟩
theorem dRE_fill_139 : decode b_RE_fill 139 = .ok (.iinc 4 (2), 3) ∧ 139 + 3 = 142 := ⟨by decide +kernel, rfl⟩
theorem dRE_fill_142 : decode b_RE_fill 142 = .ok (.goto (-23), 3) ∧ 142 + 3 = 145 ∧ ((142 : Nat) : Int) + (-23) = ((119 : Nat) : Int) := ⟨by decide +kernel, rfl, by decide⟩
theorem dRE_fill_145 : decode b_RE_fill 145 = .ok (.aload_n 0, 1) ∧ 145 + 1 = 146 := ⟨by decide +kernel, rfl⟩
theorem dRE_fill_146 : decode b_RE_fill 146 = .ok (.invokevirtual 58, 3) ∧ 146 + 3 = 149 := ⟨by decide +kernel, rfl⟩
theorem dRE_fill_149 : decode b_RE_fill 149 = .ok (.istore 4, 2) ∧ 149 + 2 = 151 := ⟨by decide +kernel, rfl⟩
theorem dRE_fill_151 : decode b_RE_fill 151 = .ok (.iconst 1, 1) ∧ 151 + 1 = 152 := ⟨by decide +kernel, rfl⟩
theorem dRE_fill_152 : decode b_RE_fill 152 = .ok (.istore 5, 2) ∧ 152 + 2 = 154 := ⟨by decide +kernel, rfl⟩
theorem dRE_fill_154 : decode b_RE_fill 154 = .ok (.iload 5, 2) ∧ 154 + 2 = 156 := ⟨by decide +kernel, rfl⟩
theorem dRE_fill_156 : decode b_RE_fill 156 = .ok (.iload 4, 2) ∧ 156 + 2 = 158 := ⟨by decide +kernel, rfl⟩
theorem dRE_fill_158 : decode b_RE_fill 158 = .ok (.if_icmp .ge (30), 3) ∧ 158 + 3 = 161 ∧ ((158 : Nat) : Int) + (30) = ((188 : Nat) : Int) := ⟨by decide +kernel, rfl, by decide⟩
theorem dRE_fill_161 : decode b_RE_fill 161 = .ok (.aload_n 0, 1) ∧ 161 + 1 = 162 := ⟨by decide +kernel, rfl⟩
theorem dRE_fill_162 : decode b_RE_fill 162 = .ok (.aload_n 1, 1) ∧ 162 + 1 = 163 := ⟨by decide +kernel, rfl⟩
theorem dRE_fill_163 : decode b_RE_fill 163 = .ok (.aload_n 0, 1) ∧ 163 + 1 = 164 := ⟨by decide +kernel, rfl⟩
theorem dRE_fill_164 : decode b_RE_fill 164 = .ok (.getfield 19, 3) ∧ 164 + 3 = 167 := ⟨by decide +kernel, rfl⟩
theorem dRE_fill_167 : decode b_RE_fill 167 = .ok (.getfield 39, 3) ∧ 167 + 3 = 170 := ⟨by decide +kernel, rfl⟩
theorem dRE_fill_170 : decode b_RE_fill 170 = .ok (.bipush (8), 2) ∧ 170 + 2 = 172 := ⟨by decide +kernel, rfl⟩
theorem dRE_fill_172 : decode b_RE_fill 172 = .ok (.iaload, 1) ∧ 172 + 1 = 173 := ⟨by decide +kernel, rfl⟩
theorem dRE_fill_173 : decode b_RE_fill 173 = .ok (.bipush (16), 2) ∧ 173 + 2 = 175 := ⟨by decide +kernel, rfl⟩
theorem dRE_fill_175 : decode b_RE_fill 175 = .ok (.iload 5, 2) ∧ 175 + 2 = 177 := ⟨by decide +kernel, rfl⟩
theorem dRE_fill_177 : decode b_RE_fill 177 = .ok (.imul, 1) ∧ 177 + 1 = 178 := ⟨by decide +kernel, rfl⟩
theorem dRE_fill_178 : decode b_RE_fill 178 = .ok (.iadd, 1) ∧ 178 + 1 = 179 := ⟨by decide +kernel, rfl⟩
theorem dRE_fill_179 : decode b_RE_fill 179 = .ok (.invokevirtual 163, 3) ∧ 179 + 3 = 182 := ⟨by decide +kernel, rfl⟩
theorem dRE_fill_182 : decode b_RE_fill 182 = .ok (.iinc 5 (1), 3) ∧ 182 + 3 = 185 := ⟨by decide +kernel, rfl⟩
theorem dRE_fill_185 : decode b_RE_fill 185 = .ok (.goto (-31), 3) ∧ 185 + 3 = 188 ∧ ((185 : Nat) : Int) + (-31) = ((154 : Nat) : Int) := ⟨by decide +kernel, rfl, by decide⟩
theorem dRE_fill_188 : decode b_RE_fill 188 = .ok (.iconst 0, 1) ∧ 188 + 1 = 189 := ⟨by decide +kernel, rfl⟩
theorem dRE_fill_189 : decode b_RE_fill 189 = .ok (.istore 5, 2) ∧ 189 + 2 = 191 := ⟨by decide +kernel, rfl⟩
theorem dRE_fill_191 : decode b_RE_fill 191 = .ok (.iload 5, 2) ∧ 191 + 2 = 193 := ⟨by decide +kernel, rfl⟩
theorem dRE_fill_193 : decode b_RE_fill 193 = .ok (.iconst 2, 1) ∧ 193 + 1 = 194 := ⟨by decide +kernel, rfl⟩
theorem dRE_fill_194 : decode b_RE_fill 194 = .ok (.if_icmp .gt (16), 3) ∧ 194 + 3 = 197 ∧ ((194 : Nat) : Int) + (16) = ((210 : Nat) : Int) := ⟨by decide +kernel, rfl, by decide⟩
theorem dRE_fill_197 : decode b_RE_fill 197 = .ok (.aload_n 0, 1) ∧ 197 + 1 = 198 := ⟨by decide +kernel, rfl⟩
theorem dRE_fill_198 : decode b_RE_fill 198 = .ok (.aload_n 1, 1) ∧ 198 + 1 = 199 := ⟨by decide +kernel, rfl⟩
theorem dRE_fill_199 : decode b_RE_fill 199 = .ok (.iload 5, 2) ∧ 199 + 2 = 201 := ⟨by decide +kernel, rfl⟩
theorem dRE_fill_201 : decode b_RE_fill 201 = .ok (.invokevirtual 167, 3) ∧ 201 + 3 = 204 := ⟨by decide +kernel, rfl⟩
theorem dRE_fill_204 : decode b_RE_fill 204 = .ok (.iinc 5 (1), 3) ∧ 204 + 3 = 207 := ⟨by decide +kernel, rfl⟩
theorem dRE_fill_207 : decode b_RE_fill 207 = .ok (.goto (-16), 3) ∧ 207 + 3 = 210 ∧ ((207 : Nat) : Int) + (-16) = ((191 : Nat) : Int) := ⟨by decide +kernel, rfl, by decide⟩
theorem dRE_fill_210 : decode b_RE_fill 210 = .ok (.return_, 1) ∧ 210 + 1 = 211 := ⟨by decide +kernel, rfl⟩
theorem dRE_flawIn_0 : decode b_RE_flawIn 0 = .ok (.aload_n 0, 1) ∧ 0 + 1 = 1 := ⟨by decide +kernel, rfl⟩
theorem dRE_flawIn_1 : decode b_RE_flawIn 1 = .ok (.iload_n 1, 1) ∧ 1 + 1 = 2 := ⟨by decide +kernel, rfl⟩
theorem dRE_flawIn_2 : decode b_RE_flawIn 2 = .ok (.invokevirtual 88, 3) ∧ 2 + 3 = 5 := ⟨by decide +kernel, rfl⟩
theorem dRE_flawIn_5 : decode b_RE_flawIn 5 = .ok (.istore_n 2, 1) ∧ 5 + 1 = 6 := ⟨by decide +kernel, rfl⟩
theorem dRE_flawIn_6 : decode b_RE_flawIn 6 = .ok (.iload_n 2, 1) ∧ 6 + 1 = 7 := ⟨by decide +kernel, rfl⟩
theorem dRE_flawIn_7 : decode b_RE_flawIn 7 = .ok (.ifCond .lt (20), 3) ∧ 7 + 3 = 10 ∧ ((7 : Nat) : Int) + (20) = ((27 : Nat) : Int) := ⟨by decide +kernel, rfl, by decide⟩
theorem dRE_flawIn_10 : decode b_RE_flawIn 10 = .ok (.iload_n 2, 1) ∧ 10 + 1 = 11 := ⟨by decide +kernel, rfl⟩
theorem dRE_flawIn_11 : decode b_RE_flawIn 11 = .ok (.iconst 3, 1) ∧ 11 + 1 = 12 := ⟨by decide +kernel, rfl⟩
theorem dRE_flawIn_12 : decode b_RE_flawIn 12 = .ok (.if_icmp .gt (15), 3) ∧ 12 + 3 = 15 ∧ ((12 : Nat) : Int) + (15) = ((27 : Nat) : Int) := ⟨by decide +kernel, rfl, by decide⟩
theorem dRE_flawIn_15 : decode b_RE_flawIn 15 = .ok (.aload_n 0, 1) ∧ 15 + 1 = 16 := ⟨by decide +kernel, rfl⟩
theorem dRE_flawIn_16 : decode b_RE_flawIn 16 = .ok (.getfield 19, 3) ∧ 16 + 3 = 19 := ⟨by decide +kernel, rfl⟩
theorem dRE_flawIn_19 : decode b_RE_flawIn 19 = .ok (.getfield 33, 3) ∧ 19 + 3 = 22 := ⟨by decide +kernel, rfl⟩
theorem dRE_flawIn_22 : decode b_RE_flawIn 22 = .ok (.iload_n 2, 1) ∧ 22 + 1 = 23 := ⟨by decide +kernel, rfl⟩
theorem dRE_flawIn_23 : decode b_RE_flawIn 23 = .ok (.iaload, 1) ∧ 23 + 1 = 24 := ⟨by decide +kernel, rfl⟩
theorem dRE_flawIn_24 : decode b_RE_flawIn 24 = .ok (.goto (4), 3) ∧ 24 + 3 = 27 ∧ ((24 : Nat) : Int) + (4) = ((28 : Nat) : Int) := ⟨by decide +kernel, rfl, by decide⟩
theorem dRE_flawIn_27 : decode b_RE_flawIn 27 = .ok (.iconst 0, 1) ∧ 27 + 1 = 28 := ⟨by decide +kernel, rfl⟩
theorem dRE_flawIn_28 : decode b_RE_flawIn 28 = .ok (.istore_n 3, 1) ∧ 28 + 1 = 29 := ⟨by decide +kernel, rfl⟩
theorem dRE_flawIn_29 : decode b_RE_flawIn 29 = .ok (.iload_n 2, 1) ∧ 29 + 1 = 30 := ⟨by decide +kernel, rfl⟩
theorem dRE_flawIn_30 : decode b_RE_flawIn 30 = .ok (.aload_n 0, 1) ∧ 30 + 1 = 31 := ⟨by decide +kernel, rfl⟩
theorem dRE_flawIn_31 : decode b_RE_flawIn 31 = .ok (.getfield 9, 3) ∧ 31 + 3 = 34 := ⟨by decide +kernel, rfl⟩
theorem dRE_flawIn_34 : decode b_RE_flawIn 34 = .ok (.iload_n 1, 1) ∧ 34 + 1 = 35 := ⟨by decide +kernel, rfl⟩
theorem dRE_flawIn_35 : decode b_RE_flawIn 35 = .ok (.iconst 4, 1) ∧ 35 + 1 = 36 := ⟨by decide +kernel, rfl⟩
theorem dRE_flawIn_36 : decode b_RE_flawIn 36 = .ok (.iadd, 1) ∧ 36 + 1 = 37 := ⟨by decide +kernel, rfl⟩
theorem dRE_flawIn_37 : decode b_RE_flawIn 37 = .ok (.invokevirtual 98, 3) ∧ 37 + 3 = 40 := ⟨by decide +kernel, rfl⟩
theorem dRE_flawIn_40 : decode b_RE_flawIn 40 = .ok (.l2i, 1) ∧ 40 + 1 = 41 := ⟨by decide +kernel, rfl⟩
theorem dRE_flawIn_41 : decode b_RE_flawIn 41 = .ok (.aload_n 0, 1) ∧ 41 + 1 = 42 := ⟨by decide +kernel, rfl⟩
theorem dRE_flawIn_42 : decode b_RE_flawIn 42 = .ok (.getfield 9, 3) ∧ 42 + 3 = 45 := ⟨by decide +kernel, rfl⟩
theorem dRE_flawIn_45 : decode b_RE_flawIn 45 = .ok (.iload_n 1, 1) ∧ 45 + 1 = 46 := ⟨by decide +kernel, rfl⟩
theorem dRE_flawIn_46 : decode b_RE_flawIn 46 = .ok (.bipush (8), 2) ∧ 46 + 2 = 48 := ⟨by decide +kernel, rfl⟩
theorem dRE_flawIn_48 : decode b_RE_flawIn 48 = .ok (.iadd, 1) ∧ 48 + 1 = 49 := ⟨by decide +kernel, rfl⟩
theorem dRE_flawIn_49 : decode b_RE_flawIn 49 = .ok (.invokevirtual 98, 3) ∧ 49 + 3 = 52 := ⟨by decide +kernel, rfl⟩
theorem dRE_flawIn_52 : decode b_RE_flawIn 52 = .ok (.l2i, 1) ∧ 52 + 1 = 53 := ⟨by decide +kernel, rfl⟩
theorem dRE_flawIn_53 : decode b_RE_flawIn 53 = .ok (.aload_n 0, 1) ∧ 53 + 1 = 54 := ⟨by decide +kernel, rfl⟩
theorem dRE_flawIn_54 : decode b_RE_flawIn 54 = .ok (.iload_n 1, 1) ∧ 54 + 1 = 55 := ⟨by decide +kernel, rfl⟩
theorem dRE_flawIn_55 : decode b_RE_flawIn 55 = .ok (.invokevirtual 78, 3) ∧ 55 + 3 = 58 := ⟨by decide +kernel, rfl⟩
theorem dRE_flawIn_58 : decode b_RE_flawIn 58 = .ok (.iload_n 3, 1) ∧ 58 + 1 = 59 := ⟨by decide +kernel, rfl⟩
theorem dRE_flawIn_59 : decode b_RE_flawIn 59 = .ok (.i2l, 1) ∧ 59 + 1 = 60 := ⟨by decide +kernel, rfl⟩
theorem dRE_flawIn_60 : decode b_RE_flawIn 60 = .ok (.invokestatic 102, 3) ∧ 60 + 3 = 63 := ⟨by decide +kernel, rfl⟩
theorem dRE_flawIn_63 : decode b_RE_flawIn 63 = .ok (.ireturn, 1) ∧ 63 + 1 = 64 := ⟨by decide +kernel, rfl⟩
theorem dRE_haveSameName_0 : decode b_RE_haveSameName 0 = .ok (.iconst 0, 1) ∧ 0 + 1 = 1 := ⟨by decide +kernel, rfl⟩
theorem dRE_haveSameName_1 : decode b_RE_haveSameName 1 = .ok (.istore_n 3, 1) ∧ 1 + 1 = 2 := ⟨by decide +kernel, rfl⟩
theorem dRE_haveSameName_2 : decode b_RE_haveSameName 2 = .ok (.iload_n 3, 1) ∧ 2 + 1 = 3 := ⟨by decide +kernel, rfl⟩
theorem dRE_haveSameName_3 : decode b_RE_haveSameName 3 = .ok (.bipush (16), 2) ∧ 3 + 2 = 5 := ⟨by decide +kernel, rfl⟩
theorem dRE_haveSameName_5 : decode b_RE_haveSameName 5 = .ok (.if_icmp .ge (45), 3) ∧ 5 + 3 = 8 ∧ ((5 : Nat) : Int) + (45) = ((50 : Nat) : Int) := ⟨by decide +kernel, rfl, by decide⟩
theorem dRE_haveSameName_8 : decode b_RE_haveSameName 8 = .ok (.aload_n 0, 1) ∧ 8 + 1 = 9 := ⟨by decide +kernel, rfl⟩
theorem dRE_haveSameName_9 : decode b_RE_haveSameName 9 = .ok (.getfield 9, 3) ∧ 9 + 3 = 12 := ⟨by decide +kernel, rfl⟩
theorem dRE_haveSameName_12 : decode b_RE_haveSameName 12 = .ok (.iload_n 1, 1) ∧ 12 + 1 = 13 := ⟨by decide +kernel, rfl⟩
theorem dRE_haveSameName_13 : decode b_RE_haveSameName 13 = .ok (.iload_n 3, 1) ∧ 13 + 1 = 14 := ⟨by decide +kernel, rfl⟩
theorem dRE_haveSameName_14 : decode b_RE_haveSameName 14 = .ok (.iadd, 1) ∧ 14 + 1 = 15 := ⟨by decide +kernel, rfl⟩
theorem dRE_haveSameName_15 : decode b_RE_haveSameName 15 = .ok (.invokevirtual 42, 3) ∧ 15 + 3 = 18 := ⟨by decide +kernel, rfl⟩
theorem dRE_haveSameName_18 : decode b_RE_haveSameName 18 = .ok (.istore 4, 2) ∧ 18 + 2 = 20 := ⟨by decide +kernel, rfl⟩
theorem dRE_haveSameName_20 : decode b_RE_haveSameName 20 = .ok (.iload 4, 2) ∧ 20 + 2 = 22 := ⟨by decide +kernel, rfl⟩
theorem dRE_haveSameName_22 : decode b_RE_haveSameName 22 = .ok (.aload_n 0, 1) ∧ 22 + 1 = 23 := ⟨by decide +kernel, rfl⟩
theorem dRE_haveSameName_23 : decode b_RE_haveSameName 23 = .ok (.getfield 9, 3) ∧ 23 + 3 = 26 := ⟨by decide +kernel, rfl⟩
theorem dRE_haveSameName_26 : decode b_RE_haveSameName 26 = .ok (.iload_n 2, 1) ∧ 26 + 1 = 27 := ⟨by decide +kernel, rfl⟩
theorem dRE_haveSameName_27 : decode b_RE_haveSameName 27 = .ok (.iload_n 3, 1) ∧ 27 + 1 = 28 := ⟨by decide +kernel, rfl⟩
theorem dRE_haveSameName_28 : decode b_RE_haveSameName 28 = .ok (.iadd, 1) ∧ 28 + 1 = 29 := ⟨by decide +kernel, rfl⟩
theorem dRE_haveSameName_29 : decode b_RE_haveSameName 29 = .ok (.invokevirtual 42, 3) ∧ 29 + 3 = 32 := ⟨by decide +kernel, rfl⟩
theorem dRE_haveSameName_32 : decode b_RE_haveSameName 32 = .ok (.if_icmp .eq (5), 3) ∧ 32 + 3 = 35 ∧ ((32 : Nat) : Int) + (5) = ((37 : Nat) : Int) := ⟨by decide +kernel, rfl, by decide⟩
theorem dRE_haveSameName_35 : decode b_RE_haveSameName 35 = .ok (.iconst 0, 1) ∧ 35 + 1 = 36 := ⟨by decide +kernel, rfl⟩
theorem dRE_haveSameName_36 : decode b_RE_haveSameName 36 = .ok (.ireturn, 1) ∧ 36 + 1 = 37 := ⟨by decide +kernel, rfl⟩
theorem dRE_haveSameName_37 : decode b_RE_haveSameName 37 = .ok (.iload 4, 2) ∧ 37 + 2 = 39 := ⟨by decide +kernel, rfl⟩
theorem dRE_haveSameName_39 : decode b_RE_haveSameName 39 = .ok (.ifCond .ne (5), 3) ∧ 39 + 3 = 42 ∧ ((39 : Nat) : Int) + (5) = ((44 : Nat) : Int) := ⟨by decide +kernel, rfl, by decide⟩
theorem dRE_haveSameName_42 : decode b_RE_haveSameName 42 = .ok (.iconst 1, 1) ∧ 42 + 1 = 43 := ⟨by decide +kernel, rfl⟩
theorem dRE_haveSameName_43 : decode b_RE_haveSameName 43 = .ok (.ireturn, 1) ∧ 43 + 1 = 44 := ⟨by decide +kernel, rfl⟩
theorem dRE_haveSameName_44 : decode b_RE_haveSameName 44 = .ok (.iinc 3 (1), 3) ∧ 44 + 3 = 47 := ⟨by decide +kernel, rfl⟩
theorem dRE_haveSameName_47 : decode b_RE_haveSameName 47 = .ok (.goto (-45), 3) ∧ 47 + 3 = 50 ∧ ((47 : Nat) : Int) + (-45) = ((2 : Nat) : Int) := ⟨by decide +kernel, rfl, by decide⟩
theorem dRE_haveSameName_50 : decode b_RE_haveSameName 50 = .ok (.iconst 1, 1) ∧ 50 + 1 = 51 := ⟨by decide +kernel, rfl⟩
theorem dRE_haveSameName_51 : decode b_RE_haveSameName 51 = .ok (.ireturn, 1) ∧ 51 + 1 = 52 := ⟨by decide +kernel, rfl⟩
theorem dRE_isNamedBefore_0 : decode b_RE_isNamedBefore 0 = .ok (.aload_n 0, 1) ∧ 0 + 1 = 1 := ⟨by decide +kernel, rfl⟩
theorem dRE_isNamedBefore_1 : decode b_RE_isNamedBefore 1 = .ok (.iload_n 2, 1) ∧ 1 + 1 = 2 := ⟨by decide +kernel, rfl⟩
theorem dRE_isNamedBefore_2 : decode b_RE_isNamedBefore 2 = .ok (.invokevirtual 112, 3) ∧ 2 + 3 = 5 := ⟨by decide +kernel, rfl⟩
theorem dRE_isNamedBefore_5 : decode b_RE_isNamedBefore 5 = .ok (.istore_n 3, 1) ∧ 5 + 1 = 6 := ⟨by decide +kernel, rfl⟩
theorem dRE_isNamedBefore_6 : decode b_RE_isNamedBefore 6 = .ok (.aload_n 0, 1) ∧ 6 + 1 = 7 := ⟨by decide +kernel, rfl⟩
theorem dRE_isNamedBefore_7 : decode b_RE_isNamedBefore 7 = .ok (.getfield 54, 3) ∧ 7 + 3 = 10 := ⟨by decide +kernel, rfl⟩
theorem dRE_isNamedBefore_10 : decode b_RE_isNamedBefore 10 = .ok (.iconst 1, 1) ∧ 10 + 1 = 11 := ⟨by decide +kernel, rfl⟩
theorem dRE_isNamedBefore_11 : decode b_RE_isNamedBefore 11 = .ok (.iadd, 1) ∧ 11 + 1 = 12 := ⟨by decide +kernel, rfl⟩
theorem dRE_isNamedBefore_12 : decode b_RE_isNamedBefore 12 = .ok (.istore 4, 2) ∧ 12 + 2 = 14 := ⟨by decide +kernel, rfl⟩
theorem dRE_isNamedBefore_14 : decode b_RE_isNamedBefore 14 = .ok (.iload 4, 2) ∧ 14 + 2 = 16 := ⟨by decide +kernel, rfl⟩
theorem dRE_isNamedBefore_16 : decode b_RE_isNamedBefore 16 = .ok (.iload_n 1, 1) ∧ 16 + 1 = 17 := ⟨by decide +kernel, rfl⟩
theorem dRE_isNamedBefore_17 : decode b_RE_isNamedBefore 17 = .ok (.if_icmp .ge (39), 3) ∧ 17 + 3 = 20 ∧ ((17 : Nat) : Int) + (39) = ((56 : Nat) : Int) := ⟨by decide +kernel, rfl, by decide⟩
theorem dRE_isNamedBefore_20 : decode b_RE_isNamedBefore 20 = .ok (.aload_n 0, 1) ∧ 20 + 1 = 21 := ⟨by decide +kernel, rfl⟩
theorem dRE_isNamedBefore_21 : decode b_RE_isNamedBefore 21 = .ok (.iload_n 3, 1) ∧ 21 + 1 = 22 := ⟨by decide +kernel, rfl⟩
theorem dRE_isNamedBefore_22 : decode b_RE_isNamedBefore 22 = .ok (.aload_n 0, 1) ∧ 22 + 1 = 23 := ⟨by decide +kernel, rfl⟩
theorem dRE_isNamedBefore_23 : decode b_RE_isNamedBefore 23 = .ok (.aload_n 0, 1) ∧ 23 + 1 = 24 := ⟨by decide +kernel, rfl⟩
theorem dRE_isNamedBefore_24 : decode b_RE_isNamedBefore 24 = .ok (.getfield 19, 3) ∧ 24 + 3 = 27 := ⟨by decide +kernel, rfl⟩
theorem dRE_isNamedBefore_27 : decode b_RE_isNamedBefore 27 = .ok (.getfield 39, 3) ∧ 27 + 3 = 30 := ⟨by decide +kernel, rfl⟩
theorem dRE_isNamedBefore_30 : decode b_RE_isNamedBefore 30 = .ok (.bipush (8), 2) ∧ 30 + 2 = 32 := ⟨by decide +kernel, rfl⟩
theorem dRE_isNamedBefore_32 : decode b_RE_isNamedBefore 32 = .ok (.iaload, 1) ∧ 32 + 1 = 33 := ⟨by decide +kernel, rfl⟩
theorem dRE_isNamedBefore_33 : decode b_RE_isNamedBefore 33 = .ok (.bipush (16), 2) ∧ 33 + 2 = 35 := ⟨by decide +kernel, rfl⟩
theorem dRE_isNamedBefore_35 : decode b_RE_isNamedBefore 35 = .ok (.iload 4, 2) ∧ 35 + 2 = 37 := ⟨by decide +kernel, rfl⟩
theorem dRE_isNamedBefore_37 : decode b_RE_isNamedBefore 37 = .ok (.imul, 1) ∧ 37 + 1 = 38 := ⟨by decide +kernel, rfl⟩
theorem dRE_isNamedBefore_38 : decode b_RE_isNamedBefore 38 = .ok (.iadd, 1) ∧ 38 + 1 = 39 := ⟨by decide +kernel, rfl⟩
theorem dRE_isNamedBefore_39 : decode b_RE_isNamedBefore 39 = .ok (.invokevirtual 112, 3) ∧ 39 + 3 = 42 := ⟨by decide +kernel, rfl⟩
theorem dRE_isNamedBefore_42 : decode b_RE_isNamedBefore 42 = .ok (.invokevirtual 118, 3) ∧ 42 + 3 = 45 := ⟨by decide +kernel, rfl⟩
theorem dRE_isNamedBefore_45 : decode b_RE_isNamedBefore 45 = .ok (.ifCond .eq (5), 3) ∧ 45 + 3 = 48 ∧ ((45 : Nat) : Int) + (5) = ((50 : Nat) : Int) := ⟨by decide +kernel, rfl, by decide⟩
theorem dRE_isNamedBefore_48 : decode b_RE_isNamedBefore 48 = .ok (.iconst 1, 1) ∧ 48 + 1 = 49 := ⟨by decide +kernel, rfl⟩
theorem dRE_isNamedBefore_49 : decode b_RE_isNamedBefore 49 = .ok (.ireturn, 1) ∧ 49 + 1 = 50 := ⟨by decide +kernel, rfl⟩
theorem dRE_isNamedBefore_50 : decode b_RE_isNamedBefore 50 = .ok (.iinc 4 (1), 3) ∧ 50 + 3 = 53 := ⟨by decide +kernel, rfl⟩
theorem dRE_isNamedBefore_53 : decode b_RE_isNamedBefore 53 = .ok (.goto (-39), 3) ∧ 53 + 3 = 56 ∧ ((53 : Nat) : Int) + (-39) = ((14 : Nat) : Int) := ⟨by decide +kernel, rfl, by decide⟩
theorem dRE_isNamedBefore_56 : decode b_RE_isNamedBefore 56 = .ok (.iconst 0, 1) ∧ 56 + 1 = 57 := ⟨by decide +kernel, rfl⟩
theorem dRE_isNamedBefore_57 : decode b_RE_isNamedBefore 57 = .ok (.ireturn, 1) ∧ 57 + 1 = 58 := ⟨by decide +kernel, rfl⟩
theorem dRE_symbolFault_0 : decode b_RE_symbolFault 0 = .ok (.aload_n 0, 1) ∧ 0 + 1 = 1 := ⟨by decide +kernel, rfl⟩
theorem dRE_symbolFault_1 : decode b_RE_symbolFault 1 = .ok (.iload_n 2, 1) ∧ 1 + 1 = 2 := ⟨by decide +kernel, rfl⟩
theorem dRE_symbolFault_2 : decode b_RE_symbolFault 2 = .ok (.invokevirtual 75, 3) ∧ 2 + 3 = 5 := ⟨by decide +kernel, rfl⟩
theorem dRE_symbolFault_5 : decode b_RE_symbolFault 5 = .ok (.iconst (-1), 1) ∧ 5 + 1 = 6 := ⟨by decide +kernel, rfl⟩
theorem dRE_symbolFault_6 : decode b_RE_symbolFault 6 = .ok (.if_icmp .ne (14), 3) ∧ 6 + 3 = 9 ∧ ((6 : Nat) : Int) + (14) = ((20 : Nat) : Int) := ⟨by decide +kernel, rfl, by decide⟩
theorem dRE_symbolFault_9 : decode b_RE_symbolFault 9 = .ok (.aload_n 0, 1) ∧ 9 + 1 = 10 := ⟨by decide +kernel, rfl⟩
theorem dRE_symbolFault_10 : decode b_RE_symbolFault 10 = .ok (.getfield 15, 3) ∧ 10 + 3 = 13 := ⟨by decide +kernel, rfl⟩
theorem dRE_symbolFault_13 : decode b_RE_symbolFault 13 = .ok (.bipush (22), 2) ∧ 13 + 2 = 15 := ⟨by decide +kernel, rfl⟩
theorem dRE_symbolFault_15 : decode b_RE_symbolFault 15 = .ok (.iload_n 2, 1) ∧ 15 + 1 = 16 := ⟨by decide +kernel, rfl⟩
theorem dRE_symbolFault_16 : decode b_RE_symbolFault 16 = .ok (.invokevirtual 48, 3) ∧ 16 + 3 = 19 := ⟨by decide +kernel, rfl⟩
theorem dRE_symbolFault_19 : decode b_RE_symbolFault 19 = .ok (.ireturn, 1) ∧ 19 + 1 = 20 := ⟨by decide +kernel, rfl⟩
theorem dRE_symbolFault_20 : decode b_RE_symbolFault 20 = .ok (.aload_n 0, 1) ∧ 20 + 1 = 21 := ⟨by decide +kernel, rfl⟩
theorem dRE_symbolFault_21 : decode b_RE_symbolFault 21 = .ok (.iload_n 2, 1) ∧ 21 + 1 = 22 := ⟨by decide +kernel, rfl⟩
theorem dRE_symbolFault_22 : decode b_RE_symbolFault 22 = .ok (.invokevirtual 78, 3) ∧ 22 + 3 = 25 := ⟨by decide +kernel, rfl⟩
theorem dRE_symbolFault_25 : decode b_RE_symbolFault 25 = .ok (.istore_n 3, 1) ∧ 25 + 1 = 26 := ⟨by decide +kernel, rfl⟩
theorem dRE_symbolFault_26 : decode b_RE_symbolFault 26 = .ok (.iload_n 3, 1) ∧ 26 + 1 = 27 := ⟨by decide +kernel, rfl⟩
theorem dRE_symbolFault_27 : decode b_RE_symbolFault 27 = .ok (.invokestatic 81, 3) ∧ 27 + 3 = 30 := ⟨by decide +kernel, rfl⟩
theorem dRE_symbolFault_30 : decode b_RE_symbolFault 30 = .ok (.ifCond .eq (14), 3) ∧ 30 + 3 = 33 ∧ ((30 : Nat) : Int) + (14) = ((44 : Nat) : Int) := ⟨by decide +kernel, rfl, by decide⟩
theorem dRE_symbolFault_33 : decode b_RE_symbolFault 33 = .ok (.aload_n 0, 1) ∧ 33 + 1 = 34 := ⟨by decide +kernel, rfl⟩
theorem dRE_symbolFault_34 : decode b_RE_symbolFault 34 = .ok (.iload_n 2, 1) ∧ 34 + 1 = 35 := ⟨by decide +kernel, rfl⟩
theorem dRE_symbolFault_35 : decode b_RE_symbolFault 35 = .ok (.invokevirtual 85, 3) ∧ 35 + 3 = 38 := ⟨by decide +kernel, rfl⟩
theorem dRE_symbolFault_38 : decode b_RE_symbolFault 38 = .ok (.invokestatic 81, 3) ∧ 38 + 3 = 41 := ⟨by decide +kernel, rfl⟩
theorem dRE_symbolFault_41 : decode b_RE_symbolFault 41 = .ok (.ifCond .ne (17), 3) ∧ 41 + 3 = 44 ∧ ((41 : Nat) : Int) + (17) = ((58 : Nat) : Int) := ⟨by decide +kernel, rfl, by decide⟩
theorem dRE_symbolFault_44 : decode b_RE_symbolFault 44 = .ok (.aload_n 0, 1) ∧ 44 + 1 = 45 := ⟨by decide +kernel, rfl⟩
theorem dRE_symbolFault_45 : decode b_RE_symbolFault 45 = .ok (.getfield 15, 3) ∧ 45 + 3 = 48 := ⟨by decide +kernel, rfl⟩
theorem dRE_symbolFault_48 : decode b_RE_symbolFault 48 = .ok (.bipush (23), 2) ∧ 48 + 2 = 50 := ⟨by decide +kernel, rfl⟩
theorem dRE_symbolFault_50 : decode b_RE_symbolFault 50 = .ok (.iload_n 2, 1) ∧ 50 + 1 = 51 := ⟨by decide +kernel, rfl⟩
theorem dRE_symbolFault_51 : decode b_RE_symbolFault 51 = .ok (.bipush (12), 2) ∧ 51 + 2 = 53 := ⟨by decide +kernel, rfl⟩
theorem dRE_symbolFault_53 : decode b_RE_symbolFault 53 = .ok (.iadd, 1) ∧ 53 + 1 = 54 := ⟨by decide +kernel, rfl⟩
theorem dRE_symbolFault_54 : decode b_RE_symbolFault 54 = .ok (.invokevirtual 48, 3) ∧ 54 + 3 = 57 := ⟨by decide +kernel, rfl⟩
theorem dRE_symbolFault_57 : decode b_RE_symbolFault 57 = .ok (.ireturn, 1) ∧ 57 + 1 = 58 := ⟨by decide +kernel, rfl⟩
theorem dRE_symbolFault_58 : decode b_RE_symbolFault 58 = .ok (.aload_n 0, 1) ∧ 58 + 1 = 59 := ⟨by decide +kernel, rfl⟩
theorem dRE_symbolFault_59 : decode b_RE_symbolFault 59 = .ok (.getfield 9, 3) ∧ 59 + 3 = 62 := ⟨by decide +kernel, rfl⟩
theorem dRE_symbolFault_62 : decode b_RE_symbolFault 62 = .ok (.iload_n 2, 1) ∧ 62 + 1 = 63 := ⟨by decide +kernel, rfl⟩
theorem dRE_symbolFault_63 : decode b_RE_symbolFault 63 = .ok (.bipush (13), 2) ∧ 63 + 2 = 65 := ⟨by decide +kernel, rfl⟩
theorem dRE_symbolFault_65 : decode b_RE_symbolFault 65 = .ok (.iadd, 1) ∧ 65 + 1 = 66 := ⟨by decide +kernel, rfl⟩
theorem dRE_symbolFault_66 : decode b_RE_symbolFault 66 = .ok (.invokevirtual 42, 3) ∧ 66 + 3 = 69 := ⟨by decide +kernel, rfl⟩
theorem dRE_symbolFault_69 : decode b_RE_symbolFault 69 = .ok (.ifCond .eq (17), 3) ∧ 69 + 3 = 72 ∧ ((69 : Nat) : Int) + (17) = ((86 : Nat) : Int) := ⟨by decide +kernel, rfl, by decide⟩
theorem dRE_symbolFault_72 : decode b_RE_symbolFault 72 = .ok (.aload_n 0, 1) ∧ 72 + 1 = 73 := ⟨by decide +kernel, rfl⟩
theorem dRE_symbolFault_73 : decode b_RE_symbolFault 73 = .ok (.getfield 15, 3) ∧ 73 + 3 = 76 := ⟨by decide +kernel, rfl⟩
theorem dRE_symbolFault_76 : decode b_RE_symbolFault 76 = .ok (.bipush (23), 2) ∧ 76 + 2 = 78 := ⟨by decide +kernel, rfl⟩
theorem dRE_symbolFault_78 : decode b_RE_symbolFault 78 = .ok (.iload_n 2, 1) ∧ 78 + 1 = 79 := ⟨by decide +kernel, rfl⟩
theorem dRE_symbolFault_79 : decode b_RE_symbolFault 79 = .ok (.bipush (13), 2) ∧ 79 + 2 = 81 := ⟨by decide +kernel, rfl⟩
theorem dRE_symbolFault_81 : decode b_RE_symbolFault 81 = .ok (.iadd, 1) ∧ 81 + 1 = 82 := ⟨by decide +kernel, rfl⟩
theorem dRE_symbolFault_82 : decode b_RE_symbolFault 82 = .ok (.invokevirtual 48, 3) ∧ 82 + 3 = 85 := ⟨by decide +kernel, rfl⟩
theorem dRE_symbolFault_85 : decode b_RE_symbolFault 85 = .ok (.ireturn, 1) ∧ 85 + 1 = 86 := ⟨by decide +kernel, rfl⟩
theorem dRE_symbolFault_86 : decode b_RE_symbolFault 86 = .ok (.iload_n 3, 1) ∧ 86 + 1 = 87 := ⟨by decide +kernel, rfl⟩
theorem dRE_symbolFault_87 : decode b_RE_symbolFault 87 = .ok (.ifCond .ne (27), 3) ∧ 87 + 3 = 90 ∧ ((87 : Nat) : Int) + (27) = ((114 : Nat) : Int) := ⟨by decide +kernel, rfl, by decide⟩
theorem dRE_symbolFault_90 : decode b_RE_symbolFault 90 = .ok (.aload_n 0, 1) ∧ 90 + 1 = 91 := ⟨by decide +kernel, rfl⟩
theorem dRE_symbolFault_91 : decode b_RE_symbolFault 91 = .ok (.getfield 54, 3) ∧ 91 + 3 = 94 := ⟨by decide +kernel, rfl⟩
theorem dRE_symbolFault_94 : decode b_RE_symbolFault 94 = .ok (.iload_n 1, 1) ∧ 94 + 1 = 95 := ⟨by decide +kernel, rfl⟩
theorem dRE_symbolFault_95 : decode b_RE_symbolFault 95 = .ok (.iconst 1, 1) ∧ 95 + 1 = 96 := ⟨by decide +kernel, rfl⟩
theorem dRE_symbolFault_96 : decode b_RE_symbolFault 96 = .ok (.isub, 1) ∧ 96 + 1 = 97 := ⟨by decide +kernel, rfl⟩
theorem dRE_symbolFault_97 : decode b_RE_symbolFault 97 = .ok (.if_icmp .ge (17), 3) ∧ 97 + 3 = 100 ∧ ((97 : Nat) : Int) + (17) = ((114 : Nat) : Int) := ⟨by decide +kernel, rfl, by decide⟩
theorem dRE_symbolFault_100 : decode b_RE_symbolFault 100 = .ok (.aload_n 0, 1) ∧ 100 + 1 = 101 := ⟨by decide +kernel, rfl⟩
theorem dRE_symbolFault_101 : decode b_RE_symbolFault 101 = .ok (.getfield 15, 3) ∧ 101 + 3 = 104 := ⟨by decide +kernel, rfl⟩
theorem dRE_symbolFault_104 : decode b_RE_symbolFault 104 = .ok (.bipush (24), 2) ∧ 104 + 2 = 106 := ⟨by decide +kernel, rfl⟩
theorem dRE_symbolFault_106 : decode b_RE_symbolFault 106 = .ok (.iload_n 2, 1) ∧ 106 + 1 = 107 := ⟨by decide +kernel, rfl⟩
theorem dRE_symbolFault_107 : decode b_RE_symbolFault 107 = .ok (.bipush (12), 2) ∧ 107 + 2 = 109 := ⟨by decide +kernel, rfl⟩
theorem dRE_symbolFault_109 : decode b_RE_symbolFault 109 = .ok (.iadd, 1) ∧ 109 + 1 = 110 := ⟨by decide +kernel, rfl⟩
theorem dRE_symbolFault_110 : decode b_RE_symbolFault 110 = .ok (.invokevirtual 48, 3) ∧ 110 + 3 = 113 := ⟨by decide +kernel, rfl⟩
theorem dRE_symbolFault_113 : decode b_RE_symbolFault 113 = .ok (.ireturn, 1) ∧ 113 + 1 = 114 := ⟨by decide +kernel, rfl⟩
theorem dRE_symbolFault_114 : decode b_RE_symbolFault 114 = .ok (.aload_n 0, 1) ∧ 114 + 1 = 115 := ⟨by decide +kernel, rfl⟩
theorem dRE_symbolFault_115 : decode b_RE_symbolFault 115 = .ok (.dup, 1) ∧ 115 + 1 = 116 := ⟨by decide +kernel, rfl⟩
theorem dRE_symbolFault_116 : decode b_RE_symbolFault 116 = .ok (.getfield 54, 3) ∧ 116 + 3 = 119 := ⟨by decide +kernel, rfl⟩
theorem dRE_symbolFault_119 : decode b_RE_symbolFault 119 = .ok (.iload_n 3, 1) ∧ 119 + 1 = 120 := ⟨by decide +kernel, rfl⟩
theorem dRE_symbolFault_120 : decode b_RE_symbolFault 120 = .ok (.ifCond .ne (7), 3) ∧ 120 + 3 = 123 ∧ ((120 : Nat) : Int) + (7) = ((127 : Nat) : Int) := ⟨by decide +kernel, rfl, by decide⟩
theorem dRE_symbolFault_123 : decode b_RE_symbolFault 123 = .ok (.iconst 1, 1) ∧ 123 + 1 = 124 := ⟨by decide +kernel, rfl⟩
theorem dRE_symbolFault_124 : decode b_RE_symbolFault 124 = .ok (.goto (4), 3) ∧ 124 + 3 = 127 ∧ ((124 : Nat) : Int) + (4) = ((128 : Nat) : Int) := ⟨by decide +kernel, rfl, by decide⟩
theorem dRE_symbolFault_127 : decode b_RE_symbolFault 127 = .ok (.iconst 0, 1) ∧ 127 + 1 = 128 := ⟨by decide +kernel, rfl⟩
theorem dRE_symbolFault_128 : decode b_RE_symbolFault 128 = .ok (.iadd, 1) ∧ 128 + 1 = 129 := ⟨by decide +kernel, rfl⟩
theorem dRE_symbolFault_129 : decode b_RE_symbolFault 129 = .ok (.putfield 54, 3) ∧ 129 + 3 = 132 := ⟨by decide +kernel, rfl⟩
theorem dRE_symbolFault_132 : decode b_RE_symbolFault 132 = .ok (.aload_n 0, 1) ∧ 132 + 1 = 133 := ⟨by decide +kernel, rfl⟩
theorem dRE_symbolFault_133 : decode b_RE_symbolFault 133 = .ok (.iload_n 2, 1) ∧ 133 + 1 = 134 := ⟨by decide +kernel, rfl⟩
theorem dRE_symbolFault_134 : decode b_RE_symbolFault 134 = .ok (.invokevirtual 88, 3) ∧ 134 + 3 = 137 := ⟨by decide +kernel, rfl⟩
theorem dRE_symbolFault_137 : decode b_RE_symbolFault 137 = .ok (.bipush (6), 2) ∧ 137 + 2 = 139 := ⟨by decide +kernel, rfl⟩
theorem dRE_symbolFault_139 : decode b_RE_symbolFault 139 = .ok (.if_icmp .ne (17), 3) ∧ 139 + 3 = 142 ∧ ((139 : Nat) : Int) + (17) = ((156 : Nat) : Int) := ⟨by decide +kernel, rfl, by decide⟩
theorem dRE_symbolFault_142 : decode b_RE_symbolFault 142 = .ok (.aload_n 0, 1) ∧ 142 + 1 = 143 := ⟨by decide +kernel, rfl⟩
theorem dRE_symbolFault_143 : decode b_RE_symbolFault 143 = .ok (.getfield 15, 3) ∧ 143 + 3 = 146 := ⟨by decide +kernel, rfl⟩
theorem dRE_symbolFault_146 : decode b_RE_symbolFault 146 = .ok (.bipush (25), 2) ∧ 146 + 2 = 148 := ⟨by decide +kernel, rfl⟩
theorem dRE_symbolFault_148 : decode b_RE_symbolFault 148 = .ok (.iload_n 2, 1) ∧ 148 + 1 = 149 := ⟨by decide +kernel, rfl⟩
theorem dRE_symbolFault_149 : decode b_RE_symbolFault 149 = .ok (.bipush (14), 2) ∧ 149 + 2 = 151 := ⟨by decide +kernel, rfl⟩
theorem dRE_symbolFault_151 : decode b_RE_symbolFault 151 = .ok (.iadd, 1) ∧ 151 + 1 = 152 := ⟨by decide +kernel, rfl⟩
theorem dRE_symbolFault_152 : decode b_RE_symbolFault 152 = .ok (.invokevirtual 48, 3) ∧ 152 + 3 = 155 := ⟨by decide +kernel, rfl⟩
theorem dRE_symbolFault_155 : decode b_RE_symbolFault 155 = .ok (.ireturn, 1) ∧ 155 + 1 = 156 := ⟨by decide +kernel, rfl⟩
theorem dRE_symbolFault_156 : decode b_RE_symbolFault 156 = .ok (.aload_n 0, 1) ∧ 156 + 1 = 157 := ⟨by decide +kernel, rfl⟩
theorem dRE_symbolFault_157 : decode b_RE_symbolFault 157 = .ok (.iload_n 2, 1) ∧ 157 + 1 = 158 := ⟨by decide +kernel, rfl⟩
theorem dRE_symbolFault_158 : decode b_RE_symbolFault 158 = .ok (.invokevirtual 91, 3) ∧ 158 + 3 = 161 := ⟨by decide +kernel, rfl⟩
theorem dRE_symbolFault_161 : decode b_RE_symbolFault 161 = .ok (.istore 4, 2) ∧ 161 + 2 = 163 := ⟨by decide +kernel, rfl⟩
theorem dRE_symbolFault_163 : decode b_RE_symbolFault 163 = .ok (.iload 4, 2) ∧ 163 + 2 = 165 := ⟨by decide +kernel, rfl⟩
theorem dRE_symbolFault_165 : decode b_RE_symbolFault 165 = .ok (.iconst (-1), 1) ∧ 165 + 1 = 166 := ⟨by decide +kernel, rfl⟩
theorem dRE_symbolFault_166 : decode b_RE_symbolFault 166 = .ok (.if_icmp .eq (42), 3) ∧ 166 + 3 = 169 ∧ ((166 : Nat) : Int) + (42) = ((208 : Nat) : Int) := ⟨by decide +kernel, rfl, by decide⟩
theorem dRE_symbolFault_169 : decode b_RE_symbolFault 169 = .ok (.aload_n 0, 1) ∧ 169 + 1 = 170 := ⟨by decide +kernel, rfl⟩
theorem dRE_symbolFault_170 : decode b_RE_symbolFault 170 = .ok (.getfield 15, 3) ∧ 170 + 3 = 173 := ⟨by decide +kernel, rfl⟩
theorem dRE_symbolFault_173 : decode b_RE_symbolFault 173 = .ok (.bipush (26), 2) ∧ 173 + 2 = 175 := ⟨by decide +kernel, rfl⟩
theorem dRE_symbolFault_175 : decode b_RE_symbolFault 175 = .ok (.iload 4, 2) ∧ 175 + 2 = 177 := ⟨by decide +kernel, rfl⟩
theorem dRE_symbolFault_177 : decode b_RE_symbolFault 177 = .ok (.iconst 1, 1) ∧ 177 + 1 = 178 := ⟨by decide +kernel, rfl⟩
theorem dRE_symbolFault_178 : decode b_RE_symbolFault 178 = .ok (.if_icmp .ne (9), 3) ∧ 178 + 3 = 181 ∧ ((178 : Nat) : Int) + (9) = ((187 : Nat) : Int) := ⟨by decide +kernel, rfl, by decide⟩
theorem dRE_symbolFault_181 : decode b_RE_symbolFault 181 = .ok (.iload_n 2, 1) ∧ 181 + 1 = 182 := ⟨by decide +kernel, rfl⟩
theorem dRE_symbolFault_182 : decode b_RE_symbolFault 182 = .ok (.iconst 4, 1) ∧ 182 + 1 = 183 := ⟨by decide +kernel, rfl⟩
theorem dRE_symbolFault_183 : decode b_RE_symbolFault 183 = .ok (.iadd, 1) ∧ 183 + 1 = 184 := ⟨by decide +kernel, rfl⟩
theorem dRE_symbolFault_184 : decode b_RE_symbolFault 184 = .ok (.goto (20), 3) ∧ 184 + 3 = 187 ∧ ((184 : Nat) : Int) + (20) = ((204 : Nat) : Int) := ⟨by decide +kernel, rfl, by decide⟩
theorem dRE_symbolFault_187 : decode b_RE_symbolFault 187 = .ok (.iload 4, 2) ∧ 187 + 2 = 189 := ⟨by decide +kernel, rfl⟩
theorem dRE_symbolFault_189 : decode b_RE_symbolFault 189 = .ok (.iconst 2, 1) ∧ 189 + 1 = 190 := ⟨by decide +kernel, rfl⟩
theorem dRE_symbolFault_190 : decode b_RE_symbolFault 190 = .ok (.if_icmp .ne (10), 3) ∧ 190 + 3 = 193 ∧ ((190 : Nat) : Int) + (10) = ((200 : Nat) : Int) := ⟨by decide +kernel, rfl, by decide⟩
theorem dRE_symbolFault_193 : decode b_RE_symbolFault 193 = .ok (.iload_n 2, 1) ∧ 193 + 1 = 194 := ⟨by decide +kernel, rfl⟩
theorem dRE_symbolFault_194 : decode b_RE_symbolFault 194 = .ok (.bipush (8), 2) ∧ 194 + 2 = 196 := ⟨by decide +kernel, rfl⟩
theorem dRE_symbolFault_196 : decode b_RE_symbolFault 196 = .ok (.iadd, 1) ∧ 196 + 1 = 197 := ⟨by decide +kernel, rfl⟩
theorem dRE_symbolFault_197 : decode b_RE_symbolFault 197 = .ok (.goto (7), 3) ∧ 197 + 3 = 200 ∧ ((197 : Nat) : Int) + (7) = ((204 : Nat) : Int) := ⟨by decide +kernel, rfl, by decide⟩
theorem dRE_symbolFault_200 : decode b_RE_symbolFault 200 = .ok (.iload_n 2, 1) ∧ 200 + 1 = 201 := ⟨by decide +kernel, rfl⟩
theorem dRE_symbolFault_201 : decode b_RE_symbolFault 201 = .ok (.bipush (12), 2) ∧ 201 + 2 = 203 := ⟨by decide +kernel, rfl⟩
theorem dRE_symbolFault_203 : decode b_RE_symbolFault 203 = .ok (.iadd, 1) ∧ 203 + 1 = 204 := ⟨by decide +kernel, rfl⟩
theorem dRE_symbolFault_204 : decode b_RE_symbolFault 204 = .ok (.invokevirtual 48, 3) ∧ 204 + 3 = 207 := ⟨by decide +kernel, rfl⟩
theorem dRE_symbolFault_207 : decode b_RE_symbolFault 207 = .ok (.ireturn, 1) ∧ 207 + 1 = 208 := ⟨by decide +kernel, rfl⟩
theorem dRE_symbolFault_208 : decode b_RE_symbolFault 208 = .ok (.iload_n 3, 1) ∧ 208 + 1 = 209 := ⟨by decide +kernel, rfl⟩
theorem dRE_symbolFault_209 : decode b_RE_symbolFault 209 = .ok (.ifCond .eq (25), 3) ∧ 209 + 3 = 212 ∧ ((209 : Nat) : Int) + (25) = ((234 : Nat) : Int) := ⟨by decide +kernel, rfl, by decide⟩
theorem dRE_symbolFault_212 : decode b_RE_symbolFault 212 = .ok (.aload_n 0, 1) ∧ 212 + 1 = 213 := ⟨by decide +kernel, rfl⟩
theorem dRE_symbolFault_213 : decode b_RE_symbolFault 213 = .ok (.iload_n 1, 1) ∧ 213 + 1 = 214 := ⟨by decide +kernel, rfl⟩
theorem dRE_symbolFault_214 : decode b_RE_symbolFault 214 = .ok (.iload_n 2, 1) ∧ 214 + 1 = 215 := ⟨by decide +kernel, rfl⟩
theorem dRE_symbolFault_215 : decode b_RE_symbolFault 215 = .ok (.invokevirtual 94, 3) ∧ 215 + 3 = 218 := ⟨by decide +kernel, rfl⟩
theorem dRE_symbolFault_218 : decode b_RE_symbolFault 218 = .ok (.ifCond .eq (16), 3) ∧ 218 + 3 = 221 ∧ ((218 : Nat) : Int) + (16) = ((234 : Nat) : Int) := ⟨by decide +kernel, rfl, by decide⟩
theorem dRE_symbolFault_221 : decode b_RE_symbolFault 221 = .ok (.aload_n 0, 1) ∧ 221 + 1 = 222 := ⟨by decide +kernel, rfl⟩
theorem dRE_symbolFault_222 : decode b_RE_symbolFault 222 = .ok (.getfield 15, 3) ∧ 222 + 3 = 225 := ⟨by decide +kernel, rfl⟩
theorem dRE_symbolFault_225 : decode b_RE_symbolFault 225 = .ok (.bipush (27), 2) ∧ 225 + 2 = 227 := ⟨by decide +kernel, rfl⟩
theorem dRE_symbolFault_227 : decode b_RE_symbolFault 227 = .ok (.iload_n 2, 1) ∧ 227 + 1 = 228 := ⟨by decide +kernel, rfl⟩
theorem dRE_symbolFault_228 : decode b_RE_symbolFault 228 = .ok (.invokevirtual 48, 3) ∧ 228 + 3 = 231 := ⟨by decide +kernel, rfl⟩
theorem dRE_symbolFault_231 : decode b_RE_symbolFault 231 = .ok (.goto (4), 3) ∧ 231 + 3 = 234 ∧ ((231 : Nat) : Int) + (4) = ((235 : Nat) : Int) := ⟨by decide +kernel, rfl, by decide⟩
theorem dRE_symbolFault_234 : decode b_RE_symbolFault 234 = .ok (.iconst 0, 1) ∧ 234 + 1 = 235 := ⟨by decide +kernel, rfl⟩
theorem dRE_symbolFault_235 : decode b_RE_symbolFault 235 = .ok (.ireturn, 1) ∧ 235 + 1 = 236 := ⟨by decide +kernel, rfl⟩
theorem dRE_symbolsFault_0 : decode b_RE_symbolsFault 0 = .ok (.aload_n 0, 1) ∧ 0 + 1 = 1 := ⟨by decide +kernel, rfl⟩
theorem dRE_symbolsFault_1 : decode b_RE_symbolsFault 1 = .ok (.getfield 19, 3) ∧ 1 + 3 = 4 := ⟨by decide +kernel, rfl⟩
theorem dRE_symbolsFault_4 : decode b_RE_symbolsFault 4 = .ok (.getfield 39, 3) ∧ 4 + 3 = 7 := ⟨by decide +kernel, rfl⟩
theorem dRE_symbolsFault_7 : decode b_RE_symbolsFault 7 = .ok (.bipush (8), 2) ∧ 7 + 2 = 9 := ⟨by decide +kernel, rfl⟩
theorem dRE_symbolsFault_9 : decode b_RE_symbolsFault 9 = .ok (.iaload, 1) ∧ 9 + 1 = 10 := ⟨by decide +kernel, rfl⟩
theorem dRE_symbolsFault_10 : decode b_RE_symbolsFault 10 = .ok (.istore_n 1, 1) ∧ 10 + 1 = 11 := ⟨by decide +kernel, rfl⟩
theorem dRE_symbolsFault_11 : decode b_RE_symbolsFault 11 = .ok (.iload_n 1, 1) ∧ 11 + 1 = 12 := ⟨by decide +kernel, rfl⟩
theorem dRE_symbolsFault_12 : decode b_RE_symbolsFault 12 = .ok (.istore_n 2, 1) ∧ 12 + 1 = 13 := ⟨by decide +kernel, rfl⟩
theorem dRE_symbolsFault_13 : decode b_RE_symbolsFault 13 = .ok (.iload_n 2, 1) ∧ 13 + 1 = 14 := ⟨by decide +kernel, rfl⟩
theorem dRE_symbolsFault_14 : decode b_RE_symbolsFault 14 = .ok (.iload_n 1, 1) ∧ 14 + 1 = 15 := ⟨by decide +kernel, rfl⟩
theorem dRE_symbolsFault_15 : decode b_RE_symbolsFault 15 = .ok (.bipush (16), 2) ∧ 15 + 2 = 17 := ⟨by decide +kernel, rfl⟩
theorem dRE_symbolsFault_17 : decode b_RE_symbolsFault 17 = .ok (.iadd, 1) ∧ 17 + 1 = 18 := ⟨by decide +kernel, rfl⟩
theorem dRE_symbolsFault_18 : decode b_RE_symbolsFault 18 = .ok (.if_icmp .ge (31), 3) ∧ 18 + 3 = 21 ∧ ((18 : Nat) : Int) + (31) = ((49 : Nat) : Int) := ⟨by decide +kernel, rfl, by decide⟩
theorem dRE_symbolsFault_21 : decode b_RE_symbolsFault 21 = .ok (.aload_n 0, 1) ∧ 21 + 1 = 22 := ⟨by decide +kernel, rfl⟩
theorem dRE_symbolsFault_22 : decode b_RE_symbolsFault 22 = .ok (.getfield 9, 3) ∧ 22 + 3 = 25 := ⟨by decide +kernel, rfl⟩
theorem dRE_symbolsFault_25 : decode b_RE_symbolsFault 25 = .ok (.iload_n 2, 1) ∧ 25 + 1 = 26 := ⟨by decide +kernel, rfl⟩
theorem dRE_symbolsFault_26 : decode b_RE_symbolsFault 26 = .ok (.invokevirtual 42, 3) ∧ 26 + 3 = 29 := ⟨by decide +kernel, rfl⟩
theorem dRE_symbolsFault_29 : decode b_RE_symbolsFault 29 = .ok (.ifCond .eq (14), 3) ∧ 29 + 3 = 32 ∧ ((29 : Nat) : Int) + (14) = ((43 : Nat) : Int) := ⟨by decide +kernel, rfl, by decide⟩
theorem dRE_symbolsFault_32 : decode b_RE_symbolsFault 32 = .ok (.aload_n 0, 1) ∧ 32 + 1 = 33 := ⟨by decide +kernel, rfl⟩
theorem dRE_symbolsFault_33 : decode b_RE_symbolsFault 33 = .ok (.getfield 15, 3) ∧ 33 + 3 = 36 := ⟨by decide +kernel, rfl⟩
theorem dRE_symbolsFault_36 : decode b_RE_symbolsFault 36 = .ok (.bipush (21), 2) ∧ 36 + 2 = 38 := ⟨by decide +kernel, rfl⟩
theorem dRE_symbolsFault_38 : decode b_RE_symbolsFault 38 = .ok (.iload_n 2, 1) ∧ 38 + 1 = 39 := ⟨by decide +kernel, rfl⟩
theorem dRE_symbolsFault_39 : decode b_RE_symbolsFault 39 = .ok (.invokevirtual 48, 3) ∧ 39 + 3 = 42 := ⟨by decide +kernel, rfl⟩
theorem dRE_symbolsFault_42 : decode b_RE_symbolsFault 42 = .ok (.ireturn, 1) ∧ 42 + 1 = 43 := ⟨by decide +kernel, rfl⟩
theorem dRE_symbolsFault_43 : decode b_RE_symbolsFault 43 = .ok (.iinc 2 (1), 3) ∧ 43 + 3 = 46 := ⟨by decide +kernel, rfl⟩
theorem dRE_symbolsFault_46 : decode b_RE_symbolsFault 46 = .ok (.goto (-33), 3) ∧ 46 + 3 = 49 ∧ ((46 : Nat) : Int) + (-33) = ((13 : Nat) : Int) := ⟨by decide +kernel, rfl, by decide⟩
theorem dRE_symbolsFault_49 : decode b_RE_symbolsFault 49 = .ok (.aload_n 0, 1) ∧ 49 + 1 = 50 := ⟨by decide +kernel, rfl⟩
theorem dRE_symbolsFault_50 : decode b_RE_symbolsFault 50 = .ok (.iconst 0, 1) ∧ 50 + 1 = 51 := ⟨by decide +kernel, rfl⟩
theorem dRE_symbolsFault_51 : decode b_RE_symbolsFault 51 = .ok (.putfield 54, 3) ∧ 51 + 3 = 54 := ⟨by decide +kernel, rfl⟩
theorem dRE_symbolsFault_54 : decode b_RE_symbolsFault 54 = .ok (.aload_n 0, 1) ∧ 54 + 1 = 55 := ⟨by decide +kernel, rfl⟩
theorem dRE_symbolsFault_55 : decode b_RE_symbolsFault 55 = .ok (.invokevirtual 58, 3) ∧ 55 + 3 = 58 := ⟨by decide +kernel, rfl⟩
theorem dRE_symbolsFault_58 : decode b_RE_symbolsFault 58 = .ok (.istore_n 2, 1) ∧ 58 + 1 = 59 := ⟨by decide +kernel, rfl⟩
theorem dRE_symbolsFault_59 : decode b_RE_symbolsFault 59 = .ok (.iconst 1, 1) ∧ 59 + 1 = 60 := ⟨by decide +kernel, rfl⟩
theorem dRE_symbolsFault_60 : decode b_RE_symbolsFault 60 = .ok (.istore_n 3, 1) ∧ 60 + 1 = 61 := ⟨by decide +kernel, rfl⟩
theorem dRE_symbolsFault_61 : decode b_RE_symbolsFault 61 = .ok (.iload_n 3, 1) ∧ 61 + 1 = 62 := ⟨by decide +kernel, rfl⟩
theorem dRE_symbolsFault_62 : decode b_RE_symbolsFault 62 = .ok (.iload_n 2, 1) ∧ 62 + 1 = 63 := ⟨by decide +kernel, rfl⟩
theorem dRE_symbolsFault_63 : decode b_RE_symbolsFault 63 = .ok (.if_icmp .ge (30), 3) ∧ 63 + 3 = 66 ∧ ((63 : Nat) : Int) + (30) = ((93 : Nat) : Int) := ⟨by decide +kernel, rfl, by decide⟩
theorem dRE_symbolsFault_66 : decode b_RE_symbolsFault 66 = .ok (.aload_n 0, 1) ∧ 66 + 1 = 67 := ⟨by decide +kernel, rfl⟩
theorem dRE_symbolsFault_67 : decode b_RE_symbolsFault 67 = .ok (.iload_n 3, 1) ∧ 67 + 1 = 68 := ⟨by decide +kernel, rfl⟩
theorem dRE_symbolsFault_68 : decode b_RE_symbolsFault 68 = .ok (.iload_n 1, 1) ∧ 68 + 1 = 69 := ⟨by decide +kernel, rfl⟩
theorem dRE_symbolsFault_69 : decode b_RE_symbolsFault 69 = .ok (.bipush (16), 2) ∧ 69 + 2 = 71 := ⟨by decide +kernel, rfl⟩
theorem dRE_symbolsFault_71 : decode b_RE_symbolsFault 71 = .ok (.iload_n 3, 1) ∧ 71 + 1 = 72 := ⟨by decide +kernel, rfl⟩
theorem dRE_symbolsFault_72 : decode b_RE_symbolsFault 72 = .ok (.imul, 1) ∧ 72 + 1 = 73 := ⟨by decide +kernel, rfl⟩
theorem dRE_symbolsFault_73 : decode b_RE_symbolsFault 73 = .ok (.iadd, 1) ∧ 73 + 1 = 74 := ⟨by decide +kernel, rfl⟩
theorem dRE_symbolsFault_74 : decode b_RE_symbolsFault 74 = .ok (.invokevirtual 61, 3) ∧ 74 + 3 = 77 := ⟨by decide +kernel, rfl⟩
theorem dRE_symbolsFault_77 : decode b_RE_symbolsFault 77 = .ok (.istore 4, 2) ∧ 77 + 2 = 79 := ⟨by decide +kernel, rfl⟩
theorem dRE_symbolsFault_79 : decode b_RE_symbolsFault 79 = .ok (.iload 4, 2) ∧ 79 + 2 = 81 := ⟨by decide +kernel, rfl⟩
theorem dRE_symbolsFault_81 : decode b_RE_symbolsFault 81 = .ok (.ifCond .eq (6), 3) ∧ 81 + 3 = 84 ∧ ((81 : Nat) : Int) + (6) = ((87 : Nat) : Int) := ⟨by decide +kernel, rfl, by decide⟩
theorem dRE_symbolsFault_84 : decode b_RE_symbolsFault 84 = .ok (.iload 4, 2) ∧ 84 + 2 = 86 := ⟨by decide +kernel, rfl⟩
theorem dRE_symbolsFault_86 : decode b_RE_symbolsFault 86 = .ok (.ireturn, 1) ∧ 86 + 1 = 87 := ⟨by decide +kernel, rfl⟩
theorem dRE_symbolsFault_87 : decode b_RE_symbolsFault 87 = .ok (.iinc 3 (1), 3) ∧ 87 + 3 = 90 := ⟨by decide +kernel, rfl⟩
theorem dRE_symbolsFault_90 : decode b_RE_symbolsFault 90 = .ok (.goto (-29), 3) ∧ 90 + 3 = 93 ∧ ((90 : Nat) : Int) + (-29) = ((61 : Nat) : Int) := ⟨by decide +kernel, rfl, by decide⟩
theorem dRE_symbolsFault_93 : decode b_RE_symbolsFault 93 = .ok (.aload_n 0, 1) ∧ 93 + 1 = 94 := ⟨by decide +kernel, rfl⟩
theorem dRE_symbolsFault_94 : decode b_RE_symbolsFault 94 = .ok (.getfield 19, 3) ∧ 94 + 3 = 97 := ⟨by decide +kernel, rfl⟩
theorem dRE_symbolsFault_97 : decode b_RE_symbolsFault 97 = .ok (.getfield 64, 3) ∧ 97 + 3 = 100 := ⟨by decide +kernel, rfl⟩
theorem dRE_symbolsFault_100 : decode b_RE_symbolsFault 100 = .ok (.bipush (8), 2) ∧ 100 + 2 = 102 := ⟨by decide +kernel, rfl⟩
theorem dRE_symbolsFault_102 : decode b_RE_symbolsFault 102 = .ok (.iaload, 1) ∧ 102 + 1 = 103 := ⟨by decide +kernel, rfl⟩
theorem dRE_symbolsFault_103 : decode b_RE_symbolsFault 103 = .ok (.istore_n 3, 1) ∧ 103 + 1 = 104 := ⟨by decide +kernel, rfl⟩
theorem dRE_symbolsFault_104 : decode b_RE_symbolsFault 104 = .ok (.aload_n 0, 1) ∧ 104 + 1 = 105 := ⟨by decide +kernel, rfl⟩
theorem dRE_symbolsFault_105 : decode b_RE_symbolsFault 105 = .ok (.getfield 19, 3) ∧ 105 + 3 = 108 := ⟨by decide +kernel, rfl⟩
theorem dRE_symbolsFault_108 : decode b_RE_symbolsFault 108 = .ok (.iload_n 3, 1) ∧ 108 + 1 = 109 := ⟨by decide +kernel, rfl⟩
theorem dRE_symbolsFault_109 : decode b_RE_symbolsFault 109 = .ok (.bipush (7), 2) ∧ 109 + 2 = 111 := ⟨by decide +kernel, rfl⟩
theorem dRE_symbolsFault_111 : decode b_RE_symbolsFault 111 = .ok (.invokevirtual 67, 3) ∧ 111 + 3 = 114 := ⟨by decide +kernel, rfl⟩
theorem dRE_symbolsFault_114 : decode b_RE_symbolsFault 114 = .ok (.iconst 1, 1) ∧ 114 + 1 = 115 := ⟨by decide +kernel, rfl⟩
theorem dRE_symbolsFault_115 : decode b_RE_symbolsFault 115 = .ok (.aload_n 0, 1) ∧ 115 + 1 = 116 := ⟨by decide +kernel, rfl⟩
theorem dRE_symbolsFault_116 : decode b_RE_symbolsFault 116 = .ok (.getfield 54, 3) ∧ 116 + 3 = 119 := ⟨by decide +kernel, rfl⟩
theorem dRE_symbolsFault_119 : decode b_RE_symbolsFault 119 = .ok (.iadd, 1) ∧ 119 + 1 = 120 := ⟨by decide +kernel, rfl⟩
theorem dRE_symbolsFault_120 : decode b_RE_symbolsFault 120 = .ok (.i2l, 1) ∧ 120 + 1 = 121 := ⟨by decide +kernel, rfl⟩
theorem dRE_symbolsFault_121 : decode b_RE_symbolsFault 121 = .ok (.lcmp, 1) ∧ 121 + 1 = 122 := ⟨by decide +kernel, rfl⟩
theorem dRE_symbolsFault_122 : decode b_RE_symbolsFault 122 = .ok (.ifCond .eq (18), 3) ∧ 122 + 3 = 125 ∧ ((122 : Nat) : Int) + (18) = ((140 : Nat) : Int) := ⟨by decide +kernel, rfl, by decide⟩
theorem dRE_symbolsFault_125 : decode b_RE_symbolsFault 125 = .ok (.aload_n 0, 1) ∧ 125 + 1 = 126 := ⟨by decide +kernel, rfl⟩
theorem dRE_symbolsFault_126 : decode b_RE_symbolsFault 126 = .ok (.getfield 19, 3) ∧ 126 + 3 = 129 := ⟨by decide +kernel, rfl⟩
theorem dRE_symbolsFault_129 : decode b_RE_symbolsFault 129 = .ok (.bipush (28), 2) ∧ 129 + 2 = 131 := ⟨by decide +kernel, rfl⟩
theorem dRE_symbolsFault_131 : decode b_RE_symbolsFault 131 = .ok (.iload_n 3, 1) ∧ 131 + 1 = 132 := ⟨by decide +kernel, rfl⟩
theorem dRE_symbolsFault_132 : decode b_RE_symbolsFault 132 = .ok (.bipush (7), 2) ∧ 132 + 2 = 134 := ⟨by decide +kernel, rfl⟩
theorem dRE_symbolsFault_134 : decode b_RE_symbolsFault 134 = .ok (.invokevirtual 71, 3) ∧ 134 + 3 = 137 := ⟨by decide +kernel, rfl⟩
theorem dRE_symbolsFault_137 : decode b_RE_symbolsFault 137 = .ok (.goto (4), 3) ∧ 137 + 3 = 140 ∧ ((137 : Nat) : Int) + (4) = ((141 : Nat) : Int) := ⟨by decide +kernel, rfl, by decide⟩
theorem dRE_symbolsFault_140 : decode b_RE_symbolsFault 140 = .ok (.iconst 0, 1) ∧ 140 + 1 = 141 := ⟨by decide +kernel, rfl⟩
theorem dRE_symbolsFault_141 : decode b_RE_symbolsFault 141 = .ok (.ireturn, 1) ∧ 141 + 1 = 142 := ⟨by decide +kernel, rfl⟩
theorem dRE_relocationFault_0 : decode b_RE_relocationFault 0 = .ok (.aload_n 0, 1) ∧ 0 + 1 = 1 := ⟨by decide +kernel, rfl⟩
theorem dRE_relocationFault_1 : decode b_RE_relocationFault 1 = .ok (.getfield 9, 3) ∧ 1 + 3 = 4 := ⟨by decide +kernel, rfl⟩
theorem dRE_relocationFault_4 : decode b_RE_relocationFault 4 = .ok (.iload_n 2, 1) ∧ 4 + 1 = 5 := ⟨by decide +kernel, rfl⟩
theorem dRE_relocationFault_5 : decode b_RE_relocationFault 5 = .ok (.iconst 4, 1) ∧ 5 + 1 = 6 := ⟨by decide +kernel, rfl⟩
theorem dRE_relocationFault_6 : decode b_RE_relocationFault 6 = .ok (.iadd, 1) ∧ 6 + 1 = 7 := ⟨by decide +kernel, rfl⟩
theorem dRE_relocationFault_7 : decode b_RE_relocationFault 7 = .ok (.invokevirtual 42, 3) ∧ 7 + 3 = 10 := ⟨by decide +kernel, rfl⟩
theorem dRE_relocationFault_10 : decode b_RE_relocationFault 10 = .ok (.istore_n 3, 1) ∧ 10 + 1 = 11 := ⟨by decide +kernel, rfl⟩
theorem dRE_relocationFault_11 : decode b_RE_relocationFault 11 = .ok (.iload_n 1, 1) ∧ 11 + 1 = 12 := ⟨by decide +kernel, rfl⟩
theorem dRE_relocationFault_12 : decode b_RE_relocationFault 12 = .ok (.iload_n 3, 1) ∧ 12 + 1 = 13 := ⟨by decide +kernel, rfl⟩
theorem dRE_relocationFault_13 : decode b_RE_relocationFault 13 = .ok (.invokestatic 124, 3) ∧ 13 + 3 = 16 := ⟨by decide +kernel, rfl⟩
theorem dRE_relocationFault_16 : decode b_RE_relocationFault 16 = .ok (.ifCond .ne (16), 3) ∧ 16 + 3 = 19 ∧ ((16 : Nat) : Int) + (16) = ((32 : Nat) : Int) := ⟨by decide +kernel, rfl, by decide⟩
theorem dRE_relocationFault_19 : decode b_RE_relocationFault 19 = .ok (.aload_n 0, 1) ∧ 19 + 1 = 20 := ⟨by decide +kernel, rfl⟩
theorem dRE_relocationFault_20 : decode b_RE_relocationFault 20 = .ok (.getfield 15, 3) ∧ 20 + 3 = 23 := ⟨by decide +kernel, rfl⟩
theorem dRE_relocationFault_23 : decode b_RE_relocationFault 23 = .ok (.bipush (29), 2) ∧ 23 + 2 = 25 := ⟨by decide +kernel, rfl⟩
theorem dRE_relocationFault_25 : decode b_RE_relocationFault 25 = .ok (.iload_n 2, 1) ∧ 25 + 1 = 26 := ⟨by decide +kernel, rfl⟩
theorem dRE_relocationFault_26 : decode b_RE_relocationFault 26 = .ok (.iconst 4, 1) ∧ 26 + 1 = 27 := ⟨by decide +kernel, rfl⟩
theorem dRE_relocationFault_27 : decode b_RE_relocationFault 27 = .ok (.iadd, 1) ∧ 27 + 1 = 28 := ⟨by decide +kernel, rfl⟩
theorem dRE_relocationFault_28 : decode b_RE_relocationFault 28 = .ok (.invokevirtual 48, 3) ∧ 28 + 3 = 31 := ⟨by decide +kernel, rfl⟩
theorem dRE_relocationFault_31 : decode b_RE_relocationFault 31 = .ok (.ireturn, 1) ∧ 31 + 1 = 32 := ⟨by decide +kernel, rfl⟩
theorem dRE_relocationFault_32 : decode b_RE_relocationFault 32 = .ok (.aload_n 0, 1) ∧ 32 + 1 = 33 := ⟨by decide +kernel, rfl⟩
theorem dRE_relocationFault_33 : decode b_RE_relocationFault 33 = .ok (.iload_n 2, 1) ∧ 33 + 1 = 34 := ⟨by decide +kernel, rfl⟩
theorem dRE_relocationFault_34 : decode b_RE_relocationFault 34 = .ok (.invokevirtual 127, 3) ∧ 34 + 3 = 37 := ⟨by decide +kernel, rfl⟩
theorem dRE_relocationFault_37 : decode b_RE_relocationFault 37 = .ok (.istore 4, 2) ∧ 37 + 2 = 39 := ⟨by decide +kernel, rfl⟩
theorem dRE_relocationFault_39 : decode b_RE_relocationFault 39 = .ok (.iload 4, 2) ∧ 39 + 2 = 41 := ⟨by decide +kernel, rfl⟩
theorem dRE_relocationFault_41 : decode b_RE_relocationFault 41 = .ok (.aload_n 0, 1) ∧ 41 + 1 = 42 := ⟨by decide +kernel, rfl⟩
theorem dRE_relocationFault_42 : decode b_RE_relocationFault 42 = .ok (.invokevirtual 58, 3) ∧ 42 + 3 = 45 := ⟨by decide +kernel, rfl⟩
theorem dRE_relocationFault_45 : decode b_RE_relocationFault 45 = .ok (.if_icmp .ge (20), 3) ∧ 45 + 3 = 48 ∧ ((45 : Nat) : Int) + (20) = ((65 : Nat) : Int) := ⟨by decide +kernel, rfl, by decide⟩
theorem dRE_relocationFault_48 : decode b_RE_relocationFault 48 = .ok (.iload_n 3, 1) ∧ 48 + 1 = 49 := ⟨by decide +kernel, rfl⟩
theorem dRE_relocationFault_49 : decode b_RE_relocationFault 49 = .ok (.invokestatic 130, 3) ∧ 49 + 3 = 52 := ⟨by decide +kernel, rfl⟩
theorem dRE_relocationFault_52 : decode b_RE_relocationFault 52 = .ok (.iload 4, 2) ∧ 52 + 2 = 54 := ⟨by decide +kernel, rfl⟩
theorem dRE_relocationFault_54 : decode b_RE_relocationFault 54 = .ok (.ifCond .eq (7), 3) ∧ 54 + 3 = 57 ∧ ((54 : Nat) : Int) + (7) = ((61 : Nat) : Int) := ⟨by decide +kernel, rfl, by decide⟩
theorem dRE_relocationFault_57 : decode b_RE_relocationFault 57 = .ok (.iconst 1, 1) ∧ 57 + 1 = 58 := ⟨by decide +kernel, rfl⟩
theorem dRE_relocationFault_58 : decode b_RE_relocationFault 58 = .ok (.goto (4), 3) ∧ 58 + 3 = 61 ∧ ((58 : Nat) : Int) + (4) = ((62 : Nat) : Int) := ⟨by decide +kernel, rfl, by decide⟩
theorem dRE_relocationFault_61 : decode b_RE_relocationFault 61 = .ok (.iconst 0, 1) ∧ 61 + 1 = 62 := ⟨by decide +kernel, rfl⟩
theorem dRE_relocationFault_62 : decode b_RE_relocationFault 62 = .ok (.if_icmp .eq (16), 3) ∧ 62 + 3 = 65 ∧ ((62 : Nat) : Int) + (16) = ((78 : Nat) : Int) := ⟨by decide +kernel, rfl, by decide⟩
theorem dRE_relocationFault_65 : decode b_RE_relocationFault 65 = .ok (.aload_n 0, 1) ∧ 65 + 1 = 66 := ⟨by decide +kernel, rfl⟩
theorem dRE_relocationFault_66 : decode b_RE_relocationFault 66 = .ok (.getfield 15, 3) ∧ 66 + 3 = 69 := ⟨by decide +kernel, rfl⟩
theorem dRE_relocationFault_69 : decode b_RE_relocationFault 69 = .ok (.bipush (30), 2) ∧ 69 + 2 = 71 := ⟨by decide +kernel, rfl⟩
theorem dRE_relocationFault_71 : decode b_RE_relocationFault 71 = .ok (.iload_n 2, 1) ∧ 71 + 1 = 72 := ⟨by decide +kernel, rfl⟩
theorem dRE_relocationFault_72 : decode b_RE_relocationFault 72 = .ok (.iconst 4, 1) ∧ 72 + 1 = 73 := ⟨by decide +kernel, rfl⟩
theorem dRE_relocationFault_73 : decode b_RE_relocationFault 73 = .ok (.iadd, 1) ∧ 73 + 1 = 74 := ⟨by decide +kernel, rfl⟩
theorem dRE_relocationFault_74 : decode b_RE_relocationFault 74 = .ok (.invokevirtual 48, 3) ∧ 74 + 3 = 77 := ⟨by decide +kernel, rfl⟩
theorem dRE_relocationFault_77 : decode b_RE_relocationFault 77 = .ok (.ireturn, 1) ∧ 77 + 1 = 78 := ⟨by decide +kernel, rfl⟩
theorem dRE_relocationFault_78 : decode b_RE_relocationFault 78 = .ok (.aload_n 0, 1) ∧ 78 + 1 = 79 := ⟨by decide +kernel, rfl⟩
theorem dRE_relocationFault_79 : decode b_RE_relocationFault 79 = .ok (.getfield 9, 3) ∧ 79 + 3 = 82 := ⟨by decide +kernel, rfl⟩
theorem dRE_relocationFault_82 : decode b_RE_relocationFault 82 = .ok (.iload_n 2, 1) ∧ 82 + 1 = 83 := ⟨by decide +kernel, rfl⟩
theorem dRE_relocationFault_83 : decode b_RE_relocationFault 83 = .ok (.bipush (8), 2) ∧ 83 + 2 = 85 := ⟨by decide +kernel, rfl⟩
theorem dRE_relocationFault_85 : decode b_RE_relocationFault 85 = .ok (.iadd, 1) ∧ 85 + 1 = 86 := ⟨by decide +kernel, rfl⟩
theorem dRE_relocationFault_86 : decode b_RE_relocationFault 86 = .ok (.invokevirtual 98, 3) ∧ 86 + 3 = 89 := ⟨by decide +kernel, rfl⟩
theorem dRE_relocationFault_89 : decode b_RE_relocationFault 89 = .ok (.l2i, 1) ∧ 89 + 1 = 90 := ⟨by decide +kernel, rfl⟩
theorem dRE_relocationFault_90 : decode b_RE_relocationFault 90 = .ok (.istore 5, 2) ∧ 90 + 2 = 92 := ⟨by decide +kernel, rfl⟩
theorem dRE_relocationFault_92 : decode b_RE_relocationFault 92 = .ok (.iload_n 3, 1) ∧ 92 + 1 = 93 := ⟨by decide +kernel, rfl⟩
theorem dRE_relocationFault_93 : decode b_RE_relocationFault 93 = .ok (.iload 5, 2) ∧ 93 + 2 = 95 := ⟨by decide +kernel, rfl⟩
theorem dRE_relocationFault_95 : decode b_RE_relocationFault 95 = .ok (.invokestatic 133, 3) ∧ 95 + 3 = 98 := ⟨by decide +kernel, rfl⟩
theorem dRE_relocationFault_98 : decode b_RE_relocationFault 98 = .ok (.ifCond .ne (17), 3) ∧ 98 + 3 = 101 ∧ ((98 : Nat) : Int) + (17) = ((115 : Nat) : Int) := ⟨by decide +kernel, rfl, by decide⟩
theorem dRE_relocationFault_101 : decode b_RE_relocationFault 101 = .ok (.aload_n 0, 1) ∧ 101 + 1 = 102 := ⟨by decide +kernel, rfl⟩
theorem dRE_relocationFault_102 : decode b_RE_relocationFault 102 = .ok (.getfield 15, 3) ∧ 102 + 3 = 105 := ⟨by decide +kernel, rfl⟩
theorem dRE_relocationFault_105 : decode b_RE_relocationFault 105 = .ok (.bipush (31), 2) ∧ 105 + 2 = 107 := ⟨by decide +kernel, rfl⟩
theorem dRE_relocationFault_107 : decode b_RE_relocationFault 107 = .ok (.iload_n 2, 1) ∧ 107 + 1 = 108 := ⟨by decide +kernel, rfl⟩
theorem dRE_relocationFault_108 : decode b_RE_relocationFault 108 = .ok (.bipush (8), 2) ∧ 108 + 2 = 110 := ⟨by decide +kernel, rfl⟩
theorem dRE_relocationFault_110 : decode b_RE_relocationFault 110 = .ok (.iadd, 1) ∧ 110 + 1 = 111 := ⟨by decide +kernel, rfl⟩
theorem dRE_relocationFault_111 : decode b_RE_relocationFault 111 = .ok (.invokevirtual 48, 3) ∧ 111 + 3 = 114 := ⟨by decide +kernel, rfl⟩
theorem dRE_relocationFault_114 : decode b_RE_relocationFault 114 = .ok (.ireturn, 1) ∧ 114 + 1 = 115 := ⟨by decide +kernel, rfl⟩
theorem dRE_relocationFault_115 : decode b_RE_relocationFault 115 = .ok (.aload_n 0, 1) ∧ 115 + 1 = 116 := ⟨by decide +kernel, rfl⟩
theorem dRE_relocationFault_116 : decode b_RE_relocationFault 116 = .ok (.getfield 9, 3) ∧ 116 + 3 = 119 := ⟨by decide +kernel, rfl⟩
theorem dRE_relocationFault_119 : decode b_RE_relocationFault 119 = .ok (.iload_n 2, 1) ∧ 119 + 1 = 120 := ⟨by decide +kernel, rfl⟩
theorem dRE_relocationFault_120 : decode b_RE_relocationFault 120 = .ok (.invokevirtual 98, 3) ∧ 120 + 3 = 123 := ⟨by decide +kernel, rfl⟩
theorem dRE_relocationFault_123 : decode b_RE_relocationFault 123 = .ok (.iload_n 3, 1) ∧ 123 + 1 = 124 := ⟨by decide +kernel, rfl⟩
theorem dRE_relocationFault_124 : decode b_RE_relocationFault 124 = .ok (.iload 5, 2) ∧ 124 + 2 = 126 := ⟨by decide +kernel, rfl⟩
theorem dRE_relocationFault_126 : decode b_RE_relocationFault 126 = .ok (.invokestatic 136, 3) ∧ 126 + 3 = 129 := ⟨by decide +kernel, rfl⟩
theorem dRE_relocationFault_129 : decode b_RE_relocationFault 129 = .ok (.i2l, 1) ∧ 129 + 1 = 130 := ⟨by decide +kernel, rfl⟩
theorem dRE_relocationFault_130 : decode b_RE_relocationFault 130 = .ok (.ladd, 1) ∧ 130 + 1 = 131 := ⟨by decide +kernel, rfl⟩
theorem dRE_relocationFault_131 : decode b_RE_relocationFault 131 = .ok (.aload_n 0, 1) ∧ 131 + 1 = 132 := ⟨by decide +kernel, rfl⟩
theorem dRE_relocationFault_132 : decode b_RE_relocationFault 132 = .ok (.getfield 19, 3) ∧ 132 + 3 = 135 := ⟨by decide +kernel, rfl⟩
theorem dRE_relocationFault_135 : decode b_RE_relocationFault 135 = .ok (.getfield 33, 3) ∧ 135 + 3 = 138 := ⟨by decide +kernel, rfl⟩
theorem dRE_relocationFault_138 : decode b_RE_relocationFault 138 = .ok (.iload_n 1, 1) ∧ 138 + 1 = 139 := ⟨by decide +kernel, rfl⟩
theorem dRE_relocationFault_139 : decode b_RE_relocationFault 139 = .ok (.iaload, 1) ∧ 139 + 1 = 140 := ⟨by decide +kernel, rfl⟩
theorem dRE_relocationFault_140 : decode b_RE_relocationFault 140 = .ok (.i2l, 1) ∧ 140 + 1 = 141 := ⟨by decide +kernel, rfl⟩
theorem dRE_relocationFault_141 : decode b_RE_relocationFault 141 = .ok (.lcmp, 1) ∧ 141 + 1 = 142 := ⟨by decide +kernel, rfl⟩
theorem dRE_relocationFault_142 : decode b_RE_relocationFault 142 = .ok (.ifCond .le (7), 3) ∧ 142 + 3 = 145 ∧ ((142 : Nat) : Int) + (7) = ((149 : Nat) : Int) := ⟨by decide +kernel, rfl, by decide⟩
theorem dRE_relocationFault_145 : decode b_RE_relocationFault 145 = .ok (.iconst 1, 1) ∧ 145 + 1 = 146 := ⟨by decide +kernel, rfl⟩
theorem dRE_relocationFault_146 : decode b_RE_relocationFault 146 = .ok (.goto (4), 3) ∧ 146 + 3 = 149 ∧ ((146 : Nat) : Int) + (4) = ((150 : Nat) : Int) := ⟨by decide +kernel, rfl, by decide⟩
theorem dRE_relocationFault_149 : decode b_RE_relocationFault 149 = .ok (.iconst 0, 1) ∧ 149 + 1 = 150 := ⟨by decide +kernel, rfl⟩
theorem dRE_relocationFault_150 : decode b_RE_relocationFault 150 = .ok (.istore 6, 2) ∧ 150 + 2 = 152 := ⟨by decide +kernel, rfl⟩
theorem dRE_relocationFault_152 : decode b_RE_relocationFault 152 = .ok (.iload 6, 2) ∧ 152 + 2 = 154 := ⟨by decide +kernel, rfl⟩
theorem dRE_relocationFault_154 : decode b_RE_relocationFault 154 = .ok (.ifCond .eq (16), 3) ∧ 154 + 3 = 157 ∧ ((154 : Nat) : Int) + (16) = ((170 : Nat) : Int) := ⟨by decide +kernel, rfl, by decide⟩
theorem dRE_relocationFault_157 : decode b_RE_relocationFault 157 = .ok (.aload_n 0, 1) ∧ 157 + 1 = 158 := ⟨by decide +kernel, rfl⟩
theorem dRE_relocationFault_158 : decode b_RE_relocationFault 158 = .ok (.getfield 15, 3) ∧ 158 + 3 = 161 := ⟨by decide +kernel, rfl⟩
theorem dRE_relocationFault_161 : decode b_RE_relocationFault 161 = .ok (.bipush (32), 2) ∧ 161 + 2 = 163 := ⟨by decide +kernel, rfl⟩
theorem dRE_relocationFault_163 : decode b_RE_relocationFault 163 = .ok (.iload_n 2, 1) ∧ 163 + 1 = 164 := ⟨by decide +kernel, rfl⟩
theorem dRE_relocationFault_164 : decode b_RE_relocationFault 164 = .ok (.invokevirtual 48, 3) ∧ 164 + 3 = 167 := ⟨by decide +kernel, rfl⟩
theorem dRE_relocationFault_167 : decode b_RE_relocationFault 167 = .ok (.goto (4), 3) ∧ 167 + 3 = 170 ∧ ((167 : Nat) : Int) + (4) = ((171 : Nat) : Int) := ⟨by decide +kernel, rfl, by decide⟩
theorem dRE_relocationFault_170 : decode b_RE_relocationFault 170 = .ok (.iconst 0, 1) ∧ 170 + 1 = 171 := ⟨by decide +kernel, rfl⟩
theorem dRE_relocationFault_171 : decode b_RE_relocationFault 171 = .ok (.ireturn, 1) ∧ 171 + 1 = 172 := ⟨by decide +kernel, rfl⟩
theorem dRE_relocationsFault_0 : decode b_RE_relocationsFault 0 = .ok (.iconst 0, 1) ∧ 0 + 1 = 1 := ⟨by decide +kernel, rfl⟩
theorem dRE_relocationsFault_1 : decode b_RE_relocationsFault 1 = .ok (.istore_n 1, 1) ∧ 1 + 1 = 2 := ⟨by decide +kernel, rfl⟩
theorem dRE_relocationsFault_2 : decode b_RE_relocationsFault 2 = .ok (.iload_n 1, 1) ∧ 2 + 1 = 3 := ⟨by decide +kernel, rfl⟩
theorem dRE_relocationsFault_3 : decode b_RE_relocationsFault 3 = .ok (.iconst 2, 1) ∧ 3 + 1 = 4 := ⟨by decide +kernel, rfl⟩
theorem dRE_relocationsFault_4 : decode b_RE_relocationsFault 4 = .ok (.if_icmp .gt (67), 3) ∧ 4 + 3 = 7 ∧ ((4 : Nat) : Int) + (67) = ((71 : Nat) : Int) := ⟨by decide +kernel, rfl, by decide⟩
theorem dRE_relocationsFault_7 : decode b_RE_relocationsFault 7 = .ok (.aload_n 0, 1) ∧ 7 + 1 = 8 := ⟨by decide +kernel, rfl⟩
theorem dRE_relocationsFault_8 : decode b_RE_relocationsFault 8 = .ok (.getfield 19, 3) ∧ 8 + 3 = 11 := ⟨by decide +kernel, rfl⟩
theorem dRE_relocationsFault_11 : decode b_RE_relocationsFault 11 = .ok (.getfield 39, 3) ∧ 11 + 3 = 14 := ⟨by decide +kernel, rfl⟩
theorem dRE_relocationsFault_14 : decode b_RE_relocationsFault 14 = .ok (.iconst 5, 1) ∧ 14 + 1 = 15 := ⟨by decide +kernel, rfl⟩
theorem dRE_relocationsFault_15 : decode b_RE_relocationsFault 15 = .ok (.iload_n 1, 1) ∧ 15 + 1 = 16 := ⟨by decide +kernel, rfl⟩
theorem dRE_relocationsFault_16 : decode b_RE_relocationsFault 16 = .ok (.iadd, 1) ∧ 16 + 1 = 17 := ⟨by decide +kernel, rfl⟩
theorem dRE_relocationsFault_17 : decode b_RE_relocationsFault 17 = .ok (.iaload, 1) ∧ 17 + 1 = 18 := ⟨by decide +kernel, rfl⟩
theorem dRE_relocationsFault_18 : decode b_RE_relocationsFault 18 = .ok (.istore_n 2, 1) ∧ 18 + 1 = 19 := ⟨by decide +kernel, rfl⟩
theorem dRE_relocationsFault_19 : decode b_RE_relocationsFault 19 = .ok (.iload_n 2, 1) ∧ 19 + 1 = 20 := ⟨by decide +kernel, rfl⟩
theorem dRE_relocationsFault_20 : decode b_RE_relocationsFault 20 = .ok (.aload_n 0, 1) ∧ 20 + 1 = 21 := ⟨by decide +kernel, rfl⟩
theorem dRE_relocationsFault_21 : decode b_RE_relocationsFault 21 = .ok (.getfield 19, 3) ∧ 21 + 3 = 24 := ⟨by decide +kernel, rfl⟩
theorem dRE_relocationsFault_24 : decode b_RE_relocationsFault 24 = .ok (.getfield 33, 3) ∧ 24 + 3 = 27 := ⟨by decide +kernel, rfl⟩
theorem dRE_relocationsFault_27 : decode b_RE_relocationsFault 27 = .ok (.iconst 5, 1) ∧ 27 + 1 = 28 := ⟨by decide +kernel, rfl⟩
theorem dRE_relocationsFault_28 : decode b_RE_relocationsFault 28 = .ok (.iload_n 1, 1) ∧ 28 + 1 = 29 := ⟨by decide +kernel, rfl⟩
theorem dRE_relocationsFault_29 : decode b_RE_relocationsFault 29 = .ok (.iadd, 1) ∧ 29 + 1 = 30 := ⟨by decide +kernel, rfl⟩
theorem dRE_relocationsFault_30 : decode b_RE_relocationsFault 30 = .ok (.iaload, 1) ∧ 30 + 1 = 31 := ⟨by decide +kernel, rfl⟩
theorem dRE_relocationsFault_31 : decode b_RE_relocationsFault 31 = .ok (.iadd, 1) ∧ 31 + 1 = 32 := ⟨by decide +kernel, rfl⟩
theorem dRE_relocationsFault_32 : decode b_RE_relocationsFault 32 = .ok (.istore_n 3, 1) ∧ 32 + 1 = 33 := ⟨by decide +kernel, rfl⟩
theorem dRE_relocationsFault_33 : decode b_RE_relocationsFault 33 = .ok (.iload_n 2, 1) ∧ 33 + 1 = 34 := ⟨by decide +kernel, rfl⟩
theorem dRE_relocationsFault_34 : decode b_RE_relocationsFault 34 = .ok (.istore 4, 2) ∧ 34 + 2 = 36 := ⟨by decide +kernel, rfl⟩
theorem dRE_relocationsFault_36 : decode b_RE_relocationsFault 36 = .ok (.iload 4, 2) ∧ 36 + 2 = 38 := ⟨by decide +kernel, rfl⟩
theorem dRE_relocationsFault_38 : decode b_RE_relocationsFault 38 = .ok (.iload_n 3, 1) ∧ 38 + 1 = 39 := ⟨by decide +kernel, rfl⟩
theorem dRE_relocationsFault_39 : decode b_RE_relocationsFault 39 = .ok (.if_icmp .ge (26), 3) ∧ 39 + 3 = 42 ∧ ((39 : Nat) : Int) + (26) = ((65 : Nat) : Int) := ⟨by decide +kernel, rfl, by decide⟩
theorem dRE_relocationsFault_42 : decode b_RE_relocationsFault 42 = .ok (.aload_n 0, 1) ∧ 42 + 1 = 43 := ⟨by decide +kernel, rfl⟩
theorem dRE_relocationsFault_43 : decode b_RE_relocationsFault 43 = .ok (.iload_n 1, 1) ∧ 43 + 1 = 44 := ⟨by decide +kernel, rfl⟩
theorem dRE_relocationsFault_44 : decode b_RE_relocationsFault 44 = .ok (.iload 4, 2) ∧ 44 + 2 = 46 := ⟨by decide +kernel, rfl⟩
theorem dRE_relocationsFault_46 : decode b_RE_relocationsFault 46 = .ok (.invokevirtual 121, 3) ∧ 46 + 3 = 49 := ⟨by decide +kernel, rfl⟩
theorem dRE_relocationsFault_49 : decode b_RE_relocationsFault 49 = .ok (.istore 5, 2) ∧ 49 + 2 = 51 := ⟨by decide +kernel, rfl⟩
theorem dRE_relocationsFault_51 : decode b_RE_relocationsFault 51 = .ok (.iload 5, 2) ∧ 51 + 2 = 53 := ⟨by decide +kernel, rfl⟩
theorem dRE_relocationsFault_53 : decode b_RE_relocationsFault 53 = .ok (.ifCond .eq (6), 3) ∧ 53 + 3 = 56 ∧ ((53 : Nat) : Int) + (6) = ((59 : Nat) : Int) := ⟨by decide +kernel, rfl, by decide⟩
theorem dRE_relocationsFault_56 : decode b_RE_relocationsFault 56 = .ok (.iload 5, 2) ∧ 56 + 2 = 58 := ⟨by decide +kernel, rfl⟩
theorem dRE_relocationsFault_58 : decode b_RE_relocationsFault 58 = .ok (.ireturn, 1) ∧ 58 + 1 = 59 := ⟨by decide +kernel, rfl⟩
theorem dRE_relocationsFault_59 : decode b_RE_relocationsFault 59 = .ok (.iinc 4 (12), 3) ∧ 59 + 3 = 62 := ⟨by decide +kernel, rfl⟩
theorem dRE_relocationsFault_62 : decode b_RE_relocationsFault 62 = .ok (.goto (-26), 3) ∧ 62 + 3 = 65 ∧ ((62 : Nat) : Int) + (-26) = ((36 : Nat) : Int) := ⟨by decide +kernel, rfl, by decide⟩
theorem dRE_relocationsFault_65 : decode b_RE_relocationsFault 65 = .ok (.iinc 1 (1), 3) ∧ 65 + 3 = 68 := ⟨by decide +kernel, rfl⟩
theorem dRE_relocationsFault_68 : decode b_RE_relocationsFault 68 = .ok (.goto (-66), 3) ∧ 68 + 3 = 71 ∧ ((68 : Nat) : Int) + (-66) = ((2 : Nat) : Int) := ⟨by decide +kernel, rfl, by decide⟩
theorem dRE_relocationsFault_71 : decode b_RE_relocationsFault 71 = .ok (.iconst 0, 1) ∧ 71 + 1 = 72 := ⟨by decide +kernel, rfl⟩
theorem dRE_relocationsFault_72 : decode b_RE_relocationsFault 72 = .ok (.ireturn, 1) ∧ 72 + 1 = 73 := ⟨by decide +kernel, rfl⟩
theorem dRE_startsFault_0 : decode b_RE_startsFault 0 = .ok (.aload_n 0, 1) ∧ 0 + 1 = 1 := ⟨by decide +kernel, rfl⟩
theorem dRE_startsFault_1 : decode b_RE_startsFault 1 = .ok (.getfield 19, 3) ∧ 1 + 3 = 4 := ⟨by decide +kernel, rfl⟩
theorem dRE_startsFault_4 : decode b_RE_startsFault 4 = .ok (.getfield 39, 3) ∧ 4 + 3 = 7 := ⟨by decide +kernel, rfl⟩
theorem dRE_startsFault_7 : decode b_RE_startsFault 7 = .ok (.iconst 0, 1) ∧ 7 + 1 = 8 := ⟨by decide +kernel, rfl⟩
theorem dRE_startsFault_8 : decode b_RE_startsFault 8 = .ok (.iaload, 1) ∧ 8 + 1 = 9 := ⟨by decide +kernel, rfl⟩
theorem dRE_startsFault_9 : decode b_RE_startsFault 9 = .ok (.istore_n 1, 1) ∧ 9 + 1 = 10 := ⟨by decide +kernel, rfl⟩
theorem dRE_startsFault_10 : decode b_RE_startsFault 10 = .ok (.aload_n 0, 1) ∧ 10 + 1 = 11 := ⟨by decide +kernel, rfl⟩
theorem dRE_startsFault_11 : decode b_RE_startsFault 11 = .ok (.getfield 19, 3) ∧ 11 + 3 = 14 := ⟨by decide +kernel, rfl⟩
theorem dRE_startsFault_14 : decode b_RE_startsFault 14 = .ok (.getfield 39, 3) ∧ 14 + 3 = 17 := ⟨by decide +kernel, rfl⟩
theorem dRE_startsFault_17 : decode b_RE_startsFault 17 = .ok (.iconst 4, 1) ∧ 17 + 1 = 18 := ⟨by decide +kernel, rfl⟩
theorem dRE_startsFault_18 : decode b_RE_startsFault 18 = .ok (.iaload, 1) ∧ 18 + 1 = 19 := ⟨by decide +kernel, rfl⟩
theorem dRE_startsFault_19 : decode b_RE_startsFault 19 = .ok (.istore_n 2, 1) ∧ 19 + 1 = 20 := ⟨by decide +kernel, rfl⟩
theorem dRE_startsFault_20 : decode b_RE_startsFault 20 = .ok (.iload_n 2, 1) ∧ 20 + 1 = 21 := ⟨by decide +kernel, rfl⟩
theorem dRE_startsFault_21 : decode b_RE_startsFault 21 = .ok (.aload_n 0, 1) ∧ 21 + 1 = 22 := ⟨by decide +kernel, rfl⟩
theorem dRE_startsFault_22 : decode b_RE_startsFault 22 = .ok (.getfield 19, 3) ∧ 22 + 3 = 25 := ⟨by decide +kernel, rfl⟩
theorem dRE_startsFault_25 : decode b_RE_startsFault 25 = .ok (.getfield 33, 3) ∧ 25 + 3 = 28 := ⟨by decide +kernel, rfl⟩
theorem dRE_startsFault_28 : decode b_RE_startsFault 28 = .ok (.iconst 4, 1) ∧ 28 + 1 = 29 := ⟨by decide +kernel, rfl⟩
theorem dRE_startsFault_29 : decode b_RE_startsFault 29 = .ok (.iaload, 1) ∧ 29 + 1 = 30 := ⟨by decide +kernel, rfl⟩
theorem dRE_startsFault_30 : decode b_RE_startsFault 30 = .ok (.iadd, 1) ∧ 30 + 1 = 31 := ⟨by decide +kernel, rfl⟩
theorem dRE_startsFault_31 : decode b_RE_startsFault 31 = .ok (.istore_n 3, 1) ∧ 31 + 1 = 32 := ⟨by decide +kernel, rfl⟩
theorem dRE_startsFault_32 : decode b_RE_startsFault 32 = .ok (.iconst (-1), 1) ∧ 32 + 1 = 33 := ⟨by decide +kernel, rfl⟩
theorem dRE_startsFault_33 : decode b_RE_startsFault 33 = .ok (.istore 4, 2) ∧ 33 + 2 = 35 := ⟨by decide +kernel, rfl⟩
theorem dRE_startsFault_35 : decode b_RE_startsFault 35 = .ok (.iconst 0, 1) ∧ 35 + 1 = 36 := ⟨by decide +kernel, rfl⟩
theorem dRE_startsFault_36 : decode b_RE_startsFault 36 = .ok (.istore 5, 2) ∧ 36 + 2 = 38 := ⟨by decide +kernel, rfl⟩
theorem dRE_startsFault_38 : decode b_RE_startsFault 38 = .ok (.iload_n 2, 1) ∧ 38 + 1 = 39 := ⟨by decide +kernel, rfl⟩
theorem dRE_startsFault_39 : decode b_RE_startsFault 39 = .ok (.istore 6, 2) ∧ 39 + 2 = 41 := ⟨by decide +kernel, rfl⟩
theorem dRE_startsFault_41 : decode b_RE_startsFault 41 = .ok (.iload 6, 2) ∧ 41 + 2 = 43 := ⟨by decide +kernel, rfl⟩
theorem dRE_startsFault_43 : decode b_RE_startsFault 43 = .ok (.iload_n 3, 1) ∧ 43 + 1 = 44 := ⟨by decide +kernel, rfl⟩
theorem dRE_startsFault_44 : decode b_RE_startsFault 44 = .ok (.if_icmp .ge (93), 3) ∧ 44 + 3 = 47 ∧ ((44 : Nat) : Int) + (93) = ((137 : Nat) : Int) := ⟨by decide +kernel, rfl, by decide⟩
theorem dRE_startsFault_47 : decode b_RE_startsFault 47 = .ok (.aload_n 0, 1) ∧ 47 + 1 = 48 := ⟨by decide +kernel, rfl⟩
theorem dRE_startsFault_48 : decode b_RE_startsFault 48 = .ok (.getfield 9, 3) ∧ 48 + 3 = 51 := ⟨by decide +kernel, rfl⟩
theorem dRE_startsFault_51 : decode b_RE_startsFault 51 = .ok (.iload 6, 2) ∧ 51 + 2 = 53 := ⟨by decide +kernel, rfl⟩
theorem dRE_startsFault_53 : decode b_RE_startsFault 53 = .ok (.invokevirtual 106, 3) ∧ 53 + 3 = 56 := ⟨by decide +kernel, rfl⟩
theorem dRE_startsFault_56 : decode b_RE_startsFault 56 = .ok (.istore 7, 2) ∧ 56 + 2 = 58 := ⟨by decide +kernel, rfl⟩
theorem dRE_startsFault_58 : decode b_RE_startsFault 58 = .ok (.iload 7, 2) ∧ 58 + 2 = 60 := ⟨by decide +kernel, rfl⟩
theorem dRE_startsFault_60 : decode b_RE_startsFault 60 = .ok (.iconst 2, 1) ∧ 60 + 1 = 61 := ⟨by decide +kernel, rfl⟩
theorem dRE_startsFault_61 : decode b_RE_startsFault 61 = .ok (.irem, 1) ∧ 61 + 1 = 62 := ⟨by decide +kernel, rfl⟩
theorem dRE_startsFault_62 : decode b_RE_startsFault 62 = .ok (.ifCond .ne (24), 3) ∧ 62 + 3 = 65 ∧ ((62 : Nat) : Int) + (24) = ((86 : Nat) : Int) := ⟨by decide +kernel, rfl, by decide⟩
theorem dRE_startsFault_65 : decode b_RE_startsFault 65 = .ok (.iload 7, 2) ∧ 65 + 2 = 67 := ⟨by decide +kernel, rfl⟩
theorem dRE_startsFault_67 : decode b_RE_startsFault 67 = .ok (.iload 4, 2) ∧ 67 + 2 = 69 := ⟨by decide +kernel, rfl⟩
theorem dRE_startsFault_69 : decode b_RE_startsFault 69 = .ok (.if_icmp .le (17), 3) ∧ 69 + 3 = 72 ∧ ((69 : Nat) : Int) + (17) = ((86 : Nat) : Int) := ⟨by decide +kernel, rfl, by decide⟩
theorem dRE_startsFault_72 : decode b_RE_startsFault 72 = .ok (.iload 7, 2) ∧ 72 + 2 = 74 := ⟨by decide +kernel, rfl⟩
theorem dRE_startsFault_74 : decode b_RE_startsFault 74 = .ok (.aload_n 0, 1) ∧ 74 + 1 = 75 := ⟨by decide +kernel, rfl⟩
theorem dRE_startsFault_75 : decode b_RE_startsFault 75 = .ok (.getfield 19, 3) ∧ 75 + 3 = 78 := ⟨by decide +kernel, rfl⟩
theorem dRE_startsFault_78 : decode b_RE_startsFault 78 = .ok (.getfield 33, 3) ∧ 78 + 3 = 81 := ⟨by decide +kernel, rfl⟩
theorem dRE_startsFault_81 : decode b_RE_startsFault 81 = .ok (.iconst 0, 1) ∧ 81 + 1 = 82 := ⟨by decide +kernel, rfl⟩
theorem dRE_startsFault_82 : decode b_RE_startsFault 82 = .ok (.iaload, 1) ∧ 82 + 1 = 83 := ⟨by decide +kernel, rfl⟩
theorem dRE_startsFault_83 : decode b_RE_startsFault 83 = .ok (.if_icmp .lt (15), 3) ∧ 83 + 3 = 86 ∧ ((83 : Nat) : Int) + (15) = ((98 : Nat) : Int) := ⟨by decide +kernel, rfl, by decide⟩
theorem dRE_startsFault_86 : decode b_RE_startsFault 86 = .ok (.aload_n 0, 1) ∧ 86 + 1 = 87 := ⟨by decide +kernel, rfl⟩
theorem dRE_startsFault_87 : decode b_RE_startsFault 87 = .ok (.getfield 15, 3) ∧ 87 + 3 = 90 := ⟨by decide +kernel, rfl⟩
theorem dRE_startsFault_90 : decode b_RE_startsFault 90 = .ok (.bipush (33), 2) ∧ 90 + 2 = 92 := ⟨by decide +kernel, rfl⟩
theorem dRE_startsFault_92 : decode b_RE_startsFault 92 = .ok (.iload 6, 2) ∧ 92 + 2 = 94 := ⟨by decide +kernel, rfl⟩
theorem dRE_startsFault_94 : decode b_RE_startsFault 94 = .ok (.invokevirtual 48, 3) ∧ 94 + 3 = 97 := ⟨by decide +kernel, rfl⟩
theorem dRE_startsFault_97 : decode b_RE_startsFault 97 = .ok (.ireturn, 1) ∧ 97 + 1 = 98 := ⟨by decide +kernel, rfl⟩
theorem dRE_startsFault_98 : decode b_RE_startsFault 98 = .ok (.iload 7, 2) ∧ 98 + 2 = 100 := ⟨by decide +kernel, rfl⟩
theorem dRE_startsFault_100 : decode b_RE_startsFault 100 = .ok (.istore 4, 2) ∧ 100 + 2 = 102 := ⟨by decide +kernel, rfl⟩
theorem dRE_startsFault_102 : decode b_RE_startsFault 102 = .ok (.iload 5, 2) ∧ 102 + 2 = 104 := ⟨by decide +kernel, rfl⟩
theorem dRE_startsFault_104 : decode b_RE_startsFault 104 = .ok (.ifCond .ne (20), 3) ∧ 104 + 3 = 107 ∧ ((104 : Nat) : Int) + (20) = ((124 : Nat) : Int) := ⟨by decide +kernel, rfl, by decide⟩
theorem dRE_startsFault_107 : decode b_RE_startsFault 107 = .ok (.aload_n 0, 1) ∧ 107 + 1 = 108 := ⟨by decide +kernel, rfl⟩
theorem dRE_startsFault_108 : decode b_RE_startsFault 108 = .ok (.getfield 9, 3) ∧ 108 + 3 = 111 := ⟨by decide +kernel, rfl⟩
theorem dRE_startsFault_111 : decode b_RE_startsFault 111 = .ok (.iload_n 1, 1) ∧ 111 + 1 = 112 := ⟨by decide +kernel, rfl⟩
theorem dRE_startsFault_112 : decode b_RE_startsFault 112 = .ok (.iload 7, 2) ∧ 112 + 2 = 114 := ⟨by decide +kernel, rfl⟩
theorem dRE_startsFault_114 : decode b_RE_startsFault 114 = .ok (.iadd, 1) ∧ 114 + 1 = 115 := ⟨by decide +kernel, rfl⟩
theorem dRE_startsFault_115 : decode b_RE_startsFault 115 = .ok (.invokevirtual 42, 3) ∧ 115 + 3 = 118 := ⟨by decide +kernel, rfl⟩
theorem dRE_startsFault_118 : decode b_RE_startsFault 118 = .ok (.invokestatic 139, 3) ∧ 118 + 3 = 121 := ⟨by decide +kernel, rfl⟩
theorem dRE_startsFault_121 : decode b_RE_startsFault 121 = .ok (.ifCond .eq (7), 3) ∧ 121 + 3 = 124 ∧ ((121 : Nat) : Int) + (7) = ((128 : Nat) : Int) := ⟨by decide +kernel, rfl, by decide⟩
theorem dRE_startsFault_124 : decode b_RE_startsFault 124 = .ok (.iconst 1, 1) ∧ 124 + 1 = 125 := ⟨by decide +kernel, rfl⟩
theorem dRE_startsFault_125 : decode b_RE_startsFault 125 = .ok (.goto (4), 3) ∧ 125 + 3 = 128 ∧ ((125 : Nat) : Int) + (4) = ((129 : Nat) : Int) := ⟨by decide +kernel, rfl, by decide⟩
theorem dRE_startsFault_128 : decode b_RE_startsFault 128 = .ok (.iconst 0, 1) ∧ 128 + 1 = 129 := ⟨by decide +kernel, rfl⟩
theorem dRE_startsFault_129 : decode b_RE_startsFault 129 = .ok (.istore 5, 2) ∧ 129 + 2 = 131 := ⟨by decide +kernel, rfl⟩
theorem dRE_startsFault_131 : decode b_RE_startsFault 131 = .ok (.iinc 6 (2), 3) ∧ 131 + 3 = 134 := ⟨by decide +kernel, rfl⟩
theorem dRE_startsFault_134 : decode b_RE_startsFault 134 = .ok (.goto (-93), 3) ∧ 134 + 3 = 137 ∧ ((134 : Nat) : Int) + (-93) = ((41 : Nat) : Int) := ⟨by decide +kernel, rfl, by decide⟩
theorem dRE_startsFault_137 : decode b_RE_startsFault 137 = .ok (.iload 5, 2) ∧ 137 + 2 = 139 := ⟨by decide +kernel, rfl⟩
theorem dRE_startsFault_139 : decode b_RE_startsFault 139 = .ok (.aload_n 0, 1) ∧ 139 + 1 = 140 := ⟨by decide +kernel, rfl⟩
theorem dRE_startsFault_140 : decode b_RE_startsFault 140 = .ok (.getfield 9, 3) ∧ 140 + 3 = 143 := ⟨by decide +kernel, rfl⟩
theorem dRE_startsFault_143 : decode b_RE_startsFault 143 = .ok (.bipush (36), 2) ∧ 143 + 2 = 145 := ⟨by decide +kernel, rfl⟩
theorem dRE_startsFault_145 : decode b_RE_startsFault 145 = .ok (.invokevirtual 98, 3) ∧ 145 + 3 = 148 := ⟨by decide +kernel, rfl⟩
theorem dRE_startsFault_148 : decode b_RE_startsFault 148 = .ok (.lconst 1, 1) ∧ 148 + 1 = 149 := ⟨by decide +kernel, rfl⟩
theorem dRE_startsFault_149 : decode b_RE_startsFault 149 = .ok (.lcmp, 1) ∧ 149 + 1 = 150 := ⟨by decide +kernel, rfl⟩
theorem dRE_startsFault_150 : decode b_RE_startsFault 150 = .ok (.ifCond .ne (7), 3) ∧ 150 + 3 = 153 ∧ ((150 : Nat) : Int) + (7) = ((157 : Nat) : Int) := ⟨by decide +kernel, rfl, by decide⟩
theorem dRE_startsFault_153 : decode b_RE_startsFault 153 = .ok (.iconst 1, 1) ∧ 153 + 1 = 154 := ⟨by decide +kernel, rfl⟩
theorem dRE_startsFault_154 : decode b_RE_startsFault 154 = .ok (.goto (4), 3) ∧ 154 + 3 = 157 ∧ ((154 : Nat) : Int) + (4) = ((158 : Nat) : Int) := ⟨by decide +kernel, rfl, by decide⟩
theorem dRE_startsFault_157 : decode b_RE_startsFault 157 = .ok (.iconst 0, 1) ∧ 157 + 1 = 158 := ⟨by decide +kernel, rfl⟩
theorem dRE_startsFault_158 : decode b_RE_startsFault 158 = .ok (.if_icmp .eq (17), 3) ∧ 158 + 3 = 161 ∧ ((158 : Nat) : Int) + (17) = ((175 : Nat) : Int) := ⟨by decide +kernel, rfl, by decide⟩
theorem dRE_startsFault_161 : decode b_RE_startsFault 161 = .ok (.aload_n 0, 1) ∧ 161 + 1 = 162 := ⟨by decide +kernel, rfl⟩
theorem dRE_startsFault_162 : decode b_RE_startsFault 162 = .ok (.getfield 15, 3) ∧ 162 + 3 = 165 := ⟨by decide +kernel, rfl⟩
theorem dRE_startsFault_165 : decode b_RE_startsFault 165 = .ok (.bipush (34), 2) ∧ 165 + 2 = 167 := ⟨by decide +kernel, rfl⟩
theorem dRE_startsFault_167 : decode b_RE_startsFault 167 = .ok (.bipush (36), 2) ∧ 167 + 2 = 169 := ⟨by decide +kernel, rfl⟩
theorem dRE_startsFault_169 : decode b_RE_startsFault 169 = .ok (.invokevirtual 48, 3) ∧ 169 + 3 = 172 := ⟨by decide +kernel, rfl⟩
theorem dRE_startsFault_172 : decode b_RE_startsFault 172 = .ok (.goto (4), 3) ∧ 172 + 3 = 175 ∧ ((172 : Nat) : Int) + (4) = ((176 : Nat) : Int) := ⟨by decide +kernel, rfl, by decide⟩
theorem dRE_startsFault_175 : decode b_RE_startsFault 175 = .ok (.iconst 0, 1) ∧ 175 + 1 = 176 := ⟨by decide +kernel, rfl⟩
theorem dRE_startsFault_176 : decode b_RE_startsFault 176 = .ok (.ireturn, 1) ∧ 176 + 1 = 177 := ⟨by decide +kernel, rfl⟩
theorem dRE_firstFault_0 : decode b_RE_firstFault 0 = .ok (.aload_n 0, 1) ∧ 0 + 1 = 1 := ⟨by decide +kernel, rfl⟩
theorem dRE_firstFault_1 : decode b_RE_firstFault 1 = .ok (.invokevirtual 23, 3) ∧ 1 + 3 = 4 := ⟨by decide +kernel, rfl⟩
theorem dRE_firstFault_4 : decode b_RE_firstFault 4 = .ok (.istore_n 1, 1) ∧ 4 + 1 = 5 := ⟨by decide +kernel, rfl⟩
theorem dRE_firstFault_5 : decode b_RE_firstFault 5 = .ok (.iload_n 1, 1) ∧ 5 + 1 = 6 := ⟨by decide +kernel, rfl⟩
theorem dRE_firstFault_6 : decode b_RE_firstFault 6 = .ok (.ifCond .eq (7), 3) ∧ 6 + 3 = 9 ∧ ((6 : Nat) : Int) + (7) = ((13 : Nat) : Int) := ⟨by decide +kernel, rfl, by decide⟩
theorem dRE_firstFault_9 : decode b_RE_firstFault 9 = .ok (.iload_n 1, 1) ∧ 9 + 1 = 10 := ⟨by decide +kernel, rfl⟩
theorem dRE_firstFault_10 : decode b_RE_firstFault 10 = .ok (.goto (7), 3) ∧ 10 + 3 = 13 ∧ ((10 : Nat) : Int) + (7) = ((17 : Nat) : Int) := ⟨by decide +kernel, rfl, by decide⟩
theorem dRE_firstFault_13 : decode b_RE_firstFault 13 = .ok (.aload_n 0, 1) ∧ 13 + 1 = 14 := ⟨by decide +kernel, rfl⟩
theorem dRE_firstFault_14 : decode b_RE_firstFault 14 = .ok (.invokevirtual 27, 3) ∧ 14 + 3 = 17 := ⟨by decide +kernel, rfl⟩
theorem dRE_firstFault_17 : decode b_RE_firstFault 17 = .ok (.istore_n 1, 1) ∧ 17 + 1 = 18 := ⟨by decide +kernel, rfl⟩
theorem dRE_firstFault_18 : decode b_RE_firstFault 18 = .ok (.iload_n 1, 1) ∧ 18 + 1 = 19 := ⟨by decide +kernel, rfl⟩
theorem dRE_firstFault_19 : decode b_RE_firstFault 19 = .ok (.ifCond .eq (7), 3) ∧ 19 + 3 = 22 ∧ ((19 : Nat) : Int) + (7) = ((26 : Nat) : Int) := ⟨by decide +kernel, rfl, by decide⟩
theorem dRE_firstFault_22 : decode b_RE_firstFault 22 = .ok (.iload_n 1, 1) ∧ 22 + 1 = 23 := ⟨by decide +kernel, rfl⟩
theorem dRE_firstFault_23 : decode b_RE_firstFault 23 = .ok (.goto (7), 3) ∧ 23 + 3 = 26 ∧ ((23 : Nat) : Int) + (7) = ((30 : Nat) : Int) := ⟨by decide +kernel, rfl, by decide⟩
theorem dRE_firstFault_26 : decode b_RE_firstFault 26 = .ok (.aload_n 0, 1) ∧ 26 + 1 = 27 := ⟨by decide +kernel, rfl⟩
theorem dRE_firstFault_27 : decode b_RE_firstFault 27 = .ok (.invokevirtual 30, 3) ∧ 27 + 3 = 30 := ⟨by decide +kernel, rfl⟩
theorem dRE_firstFault_30 : decode b_RE_firstFault 30 = .ok (.ireturn, 1) ∧ 30 + 1 = 31 := ⟨by decide +kernel, rfl⟩
theorem dOF_read_0 : decode b_OF_read 0 = .ok (.aload_n 0, 1) ∧ 0 + 1 = 1 := ⟨by decide +kernel, rfl⟩
theorem dOF_read_1 : decode b_OF_read 1 = .ok (.getfield 38, 3) ∧ 1 + 3 = 4 := ⟨by decide +kernel, rfl⟩
theorem dOF_read_4 : decode b_OF_read 4 = .ok (.iconst (-1), 1) ∧ 4 + 1 = 5 := ⟨by decide +kernel, rfl⟩
theorem dOF_read_5 : decode b_OF_read 5 = .ok (.putfield 151, 3) ∧ 5 + 3 = 8 := ⟨by decide +kernel, rfl⟩
theorem dOF_read_8 : decode b_OF_read 8 = .ok (.aload_n 0, 1) ∧ 8 + 1 = 9 := ⟨by decide +kernel, rfl⟩
theorem dOF_read_9 : decode b_OF_read 9 = .ok (.getfield 47, 3) ∧ 9 + 3 = 12 := ⟨by decide +kernel, rfl⟩
theorem dOF_read_12 : decode b_OF_read 12 = .ok (.invokevirtual 154, 3) ∧ 12 + 3 = 15 := ⟨by decide +kernel, rfl⟩
theorem dOF_read_15 : decode b_OF_read 15 = .ok (.istore_n 1, 1) ∧ 15 + 1 = 16 := ⟨by decide +kernel, rfl⟩
theorem dOF_read_16 : decode b_OF_read 16 = .ok (.iload_n 1, 1) ∧ 16 + 1 = 17 := ⟨by decide +kernel, rfl⟩
theorem dOF_read_17 : decode b_OF_read 17 = .ok (.ifCond .ne (11), 3) ∧ 17 + 3 = 20 ∧ ((17 : Nat) : Int) + (11) = ((28 : Nat) : Int) := ⟨by decide +kernel, rfl, by decide⟩
theorem dOF_read_20 : decode b_OF_read 20 = .ok (.aload_n 0, 1) ∧ 20 + 1 = 21 := ⟨by decide +kernel, rfl⟩
theorem dOF_read_21 : decode b_OF_read 21 = .ok (.getfield 56, 3) ∧ 21 + 3 = 24 := ⟨by decide +kernel, rfl⟩
theorem dOF_read_24 : decode b_OF_read 24 = .ok (.invokevirtual 157, 3) ∧ 24 + 3 = 27 := ⟨by decide +kernel, rfl⟩
theorem dOF_read_27 : decode b_OF_read 27 = .ok (.istore_n 1, 1) ∧ 27 + 1 = 28 := ⟨by decide +kernel, rfl⟩
theorem dOF_read_28 : decode b_OF_read 28 = .ok (.iload_n 1, 1) ∧ 28 + 1 = 29 := ⟨by decide +kernel, rfl⟩
theorem dOF_read_29 : decode b_OF_read 29 = .ok (.ifCond .ne (14), 3) ∧ 29 + 3 = 32 ∧ ((29 : Nat) : Int) + (14) = ((43 : Nat) : Int) := ⟨by decide +kernel, rfl, by decide⟩
theorem dOF_read_32 : decode b_OF_read 32 = .ok (.aload_n 0, 1) ∧ 32 + 1 = 33 := ⟨by decide +kernel, rfl⟩
theorem dOF_read_33 : decode b_OF_read 33 = .ok (.getfield 56, 3) ∧ 33 + 3 = 36 := ⟨by decide +kernel, rfl⟩
theorem dOF_read_36 : decode b_OF_read 36 = .ok (.aload_n 0, 1) ∧ 36 + 1 = 37 := ⟨by decide +kernel, rfl⟩
theorem dOF_read_37 : decode b_OF_read 37 = .ok (.getfield 16, 3) ∧ 37 + 3 = 40 := ⟨by decide +kernel, rfl⟩
theorem dOF_read_40 : decode b_OF_read 40 = .ok (.invokevirtual 158, 3) ∧ 40 + 3 = 43 := ⟨by decide +kernel, rfl⟩
theorem dOF_read_43 : decode b_OF_read 43 = .ok (.iload_n 1, 1) ∧ 43 + 1 = 44 := ⟨by decide +kernel, rfl⟩
theorem dOF_read_44 : decode b_OF_read 44 = .ok (.ireturn, 1) ∧ 44 + 1 = 45 := ⟨by decide +kernel, rfl⟩
theorem dOF_place_0 : decode b_OF_place 0 = .ok (.aload_n 0, 1) ∧ 0 + 1 = 1 := ⟨by decide +kernel, rfl⟩
theorem dOF_place_1 : decode b_OF_place 1 = .ok (.getfield 38, 3) ∧ 1 + 3 = 4 := ⟨by decide +kernel, rfl⟩
theorem dOF_place_4 : decode b_OF_place 4 = .ok (.getfield 151, 3) ∧ 4 + 3 = 7 := ⟨by decide +kernel, rfl⟩
theorem dOF_place_7 : decode b_OF_place 7 = .ok (.ireturn, 1) ∧ 7 + 1 = 8 := ⟨by decide +kernel, rfl⟩
theorem dCT_copyAll_0 : decode b_CT_copyAll 0 = .ok (.aload_n 1, 1) ∧ 0 + 1 = 1 := ⟨by decide +kernel, rfl⟩
theorem dCT_copyAll_1 : decode b_CT_copyAll 1 = .ok (.getfield 9, 3) ∧ 1 + 3 = 4 := ⟨by decide +kernel, rfl⟩
theorem dCT_copyAll_4 : decode b_CT_copyAll 4 = .ok (.iconst 0, 1) ∧ 4 + 1 = 5 := ⟨by decide +kernel, rfl⟩
theorem dCT_copyAll_5 : decode b_CT_copyAll 5 = .ok (.aload_n 0, 1) ∧ 5 + 1 = 6 := ⟨by decide +kernel, rfl⟩
theorem dCT_copyAll_6 : decode b_CT_copyAll 6 = .ok (.getfield 9, 3) ∧ 6 + 3 = 9 := ⟨by decide +kernel, rfl⟩
theorem dCT_copyAll_9 : decode b_CT_copyAll 9 = .ok (.iconst 0, 1) ∧ 9 + 1 = 10 := ⟨by decide +kernel, rfl⟩
theorem dCT_copyAll_10 : decode b_CT_copyAll 10 = .ok (.aload_n 0, 1) ∧ 10 + 1 = 11 := ⟨by decide +kernel, rfl⟩
theorem dCT_copyAll_11 : decode b_CT_copyAll 11 = .ok (.getfield 9, 3) ∧ 11 + 3 = 14 := ⟨by decide +kernel, rfl⟩
theorem dCT_copyAll_14 : decode b_CT_copyAll 14 = .ok (.arraylength, 1) ∧ 14 + 1 = 15 := ⟨by decide +kernel, rfl⟩
theorem dCT_copyAll_15 : decode b_CT_copyAll 15 = .ok (.invokestatic 50, 3) ∧ 15 + 3 = 18 := ⟨by decide +kernel, rfl⟩
theorem dCT_copyAll_18 : decode b_CT_copyAll 18 = .ok (.aload_n 1, 1) ∧ 18 + 1 = 19 := ⟨by decide +kernel, rfl⟩
theorem dCT_copyAll_19 : decode b_CT_copyAll 19 = .ok (.getfield 15, 3) ∧ 19 + 3 = 22 := ⟨by decide +kernel, rfl⟩
theorem dCT_copyAll_22 : decode b_CT_copyAll 22 = .ok (.iconst 0, 1) ∧ 22 + 1 = 23 := ⟨by decide +kernel, rfl⟩
theorem dCT_copyAll_23 : decode b_CT_copyAll 23 = .ok (.aload_n 0, 1) ∧ 23 + 1 = 24 := ⟨by decide +kernel, rfl⟩
theorem dCT_copyAll_24 : decode b_CT_copyAll 24 = .ok (.getfield 15, 3) ∧ 24 + 3 = 27 := ⟨by decide +kernel, rfl⟩
theorem dCT_copyAll_27 : decode b_CT_copyAll 27 = .ok (.iconst 0, 1) ∧ 27 + 1 = 28 := ⟨by decide +kernel, rfl⟩
theorem dCT_copyAll_28 : decode b_CT_copyAll 28 = .ok (.aload_n 0, 1) ∧ 28 + 1 = 29 := ⟨by decide +kernel, rfl⟩
theorem dCT_copyAll_29 : decode b_CT_copyAll 29 = .ok (.getfield 15, 3) ∧ 29 + 3 = 32 := ⟨by decide +kernel, rfl⟩
theorem dCT_copyAll_32 : decode b_CT_copyAll 32 = .ok (.arraylength, 1) ∧ 32 + 1 = 33 := ⟨by decide +kernel, rfl⟩
theorem dCT_copyAll_33 : decode b_CT_copyAll 33 = .ok (.invokestatic 50, 3) ∧ 33 + 3 = 36 := ⟨by decide +kernel, rfl⟩
theorem dCT_copyAll_36 : decode b_CT_copyAll 36 = .ok (.aload_n 1, 1) ∧ 36 + 1 = 37 := ⟨by decide +kernel, rfl⟩
theorem dCT_copyAll_37 : decode b_CT_copyAll 37 = .ok (.getfield 19, 3) ∧ 37 + 3 = 40 := ⟨by decide +kernel, rfl⟩
theorem dCT_copyAll_40 : decode b_CT_copyAll 40 = .ok (.iconst 0, 1) ∧ 40 + 1 = 41 := ⟨by decide +kernel, rfl⟩
theorem dCT_copyAll_41 : decode b_CT_copyAll 41 = .ok (.aload_n 0, 1) ∧ 41 + 1 = 42 := ⟨by decide +kernel, rfl⟩
theorem dCT_copyAll_42 : decode b_CT_copyAll 42 = .ok (.getfield 19, 3) ∧ 42 + 3 = 45 := ⟨by decide +kernel, rfl⟩
theorem dCT_copyAll_45 : decode b_CT_copyAll 45 = .ok (.iconst 0, 1) ∧ 45 + 1 = 46 := ⟨by decide +kernel, rfl⟩
theorem dCT_copyAll_46 : decode b_CT_copyAll 46 = .ok (.aload_n 0, 1) ∧ 46 + 1 = 47 := ⟨by decide +kernel, rfl⟩
theorem dCT_copyAll_47 : decode b_CT_copyAll 47 = .ok (.getfield 19, 3) ∧ 47 + 3 = 50 := ⟨by decide +kernel, rfl⟩
theorem dCT_copyAll_50 : decode b_CT_copyAll 50 = .ok (.arraylength, 1) ∧ 50 + 1 = 51 := ⟨by decide +kernel, rfl⟩
theorem dCT_copyAll_51 : decode b_CT_copyAll 51 = .ok (.invokestatic 50, 3) ∧ 51 + 3 = 54 := ⟨by decide +kernel, rfl⟩
theorem dCT_copyAll_54 : decode b_CT_copyAll 54 = .ok (.aload_n 1, 1) ∧ 54 + 1 = 55 := ⟨by decide +kernel, rfl⟩
theorem dCT_copyAll_55 : decode b_CT_copyAll 55 = .ok (.getfield 22, 3) ∧ 55 + 3 = 58 := ⟨by decide +kernel, rfl⟩
theorem dCT_copyAll_58 : decode b_CT_copyAll 58 = .ok (.iconst 0, 1) ∧ 58 + 1 = 59 := ⟨by decide +kernel, rfl⟩
theorem dCT_copyAll_59 : decode b_CT_copyAll 59 = .ok (.aload_n 0, 1) ∧ 59 + 1 = 60 := ⟨by decide +kernel, rfl⟩
theorem dCT_copyAll_60 : decode b_CT_copyAll 60 = .ok (.getfield 22, 3) ∧ 60 + 3 = 63 := ⟨by decide +kernel, rfl⟩
theorem dCT_copyAll_63 : decode b_CT_copyAll 63 = .ok (.iconst 0, 1) ∧ 63 + 1 = 64 := ⟨by decide +kernel, rfl⟩
theorem dCT_copyAll_64 : decode b_CT_copyAll 64 = .ok (.aload_n 0, 1) ∧ 64 + 1 = 65 := ⟨by decide +kernel, rfl⟩
theorem dCT_copyAll_65 : decode b_CT_copyAll 65 = .ok (.getfield 22, 3) ∧ 65 + 3 = 68 := ⟨by decide +kernel, rfl⟩
theorem dCT_copyAll_68 : decode b_CT_copyAll 68 = .ok (.arraylength, 1) ∧ 68 + 1 = 69 := ⟨by decide +kernel, rfl⟩
theorem dCT_copyAll_69 : decode b_CT_copyAll 69 = .ok (.invokestatic 50, 3) ∧ 69 + 3 = 72 := ⟨by decide +kernel, rfl⟩
theorem dCT_copyAll_72 : decode b_CT_copyAll 72 = .ok (.aload_n 1, 1) ∧ 72 + 1 = 73 := ⟨by decide +kernel, rfl⟩
theorem dCT_copyAll_73 : decode b_CT_copyAll 73 = .ok (.getfield 25, 3) ∧ 73 + 3 = 76 := ⟨by decide +kernel, rfl⟩
theorem dCT_copyAll_76 : decode b_CT_copyAll 76 = .ok (.iconst 0, 1) ∧ 76 + 1 = 77 := ⟨by decide +kernel, rfl⟩
theorem dCT_copyAll_77 : decode b_CT_copyAll 77 = .ok (.aload_n 0, 1) ∧ 77 + 1 = 78 := ⟨by decide +kernel, rfl⟩
theorem dCT_copyAll_78 : decode b_CT_copyAll 78 = .ok (.getfield 25, 3) ∧ 78 + 3 = 81 := ⟨by decide +kernel, rfl⟩
theorem dCT_copyAll_81 : decode b_CT_copyAll 81 = .ok (.iconst 0, 1) ∧ 81 + 1 = 82 := ⟨by decide +kernel, rfl⟩
theorem dCT_copyAll_82 : decode b_CT_copyAll 82 = .ok (.aload_n 0, 1) ∧ 82 + 1 = 83 := ⟨by decide +kernel, rfl⟩
theorem dCT_copyAll_83 : decode b_CT_copyAll 83 = .ok (.getfield 25, 3) ∧ 83 + 3 = 86 := ⟨by decide +kernel, rfl⟩
theorem dCT_copyAll_86 : decode b_CT_copyAll 86 = .ok (.arraylength, 1) ∧ 86 + 1 = 87 := ⟨by decide +kernel, rfl⟩
theorem dCT_copyAll_87 : decode b_CT_copyAll 87 = .ok (.invokestatic 50, 3) ∧ 87 + 3 = 90 := ⟨by decide +kernel, rfl⟩
theorem dCT_copyAll_90 : decode b_CT_copyAll 90 = .ok (.aload_n 1, 1) ∧ 90 + 1 = 91 := ⟨by decide +kernel, rfl⟩
theorem dCT_copyAll_91 : decode b_CT_copyAll 91 = .ok (.getfield 28, 3) ∧ 91 + 3 = 94 := ⟨by decide +kernel, rfl⟩
theorem dCT_copyAll_94 : decode b_CT_copyAll 94 = .ok (.iconst 0, 1) ∧ 94 + 1 = 95 := ⟨by decide +kernel, rfl⟩
theorem dCT_copyAll_95 : decode b_CT_copyAll 95 = .ok (.aload_n 0, 1) ∧ 95 + 1 = 96 := ⟨by decide +kernel, rfl⟩
theorem dCT_copyAll_96 : decode b_CT_copyAll 96 = .ok (.getfield 28, 3) ∧ 96 + 3 = 99 := ⟨by decide +kernel, rfl⟩
theorem dCT_copyAll_99 : decode b_CT_copyAll 99 = .ok (.iconst 0, 1) ∧ 99 + 1 = 100 := ⟨by decide +kernel, rfl⟩
theorem dCT_copyAll_100 : decode b_CT_copyAll 100 = .ok (.aload_n 0, 1) ∧ 100 + 1 = 101 := ⟨by decide +kernel, rfl⟩
theorem dCT_copyAll_101 : decode b_CT_copyAll 101 = .ok (.getfield 28, 3) ∧ 101 + 3 = 104 := ⟨by decide +kernel, rfl⟩
theorem dCT_copyAll_104 : decode b_CT_copyAll 104 = .ok (.arraylength, 1) ∧ 104 + 1 = 105 := ⟨by decide +kernel, rfl⟩
theorem dCT_copyAll_105 : decode b_CT_copyAll 105 = .ok (.invokestatic 50, 3) ∧ 105 + 3 = 108 := ⟨by decide +kernel, rfl⟩
theorem dCT_copyAll_108 : decode b_CT_copyAll 108 = .ok (.aload_n 1, 1) ∧ 108 + 1 = 109 := ⟨by decide +kernel, rfl⟩
theorem dCT_copyAll_109 : decode b_CT_copyAll 109 = .ok (.getfield 31, 3) ∧ 109 + 3 = 112 := ⟨by decide +kernel, rfl⟩
theorem dCT_copyAll_112 : decode b_CT_copyAll 112 = .ok (.iconst 0, 1) ∧ 112 + 1 = 113 := ⟨by decide +kernel, rfl⟩
theorem dCT_copyAll_113 : decode b_CT_copyAll 113 = .ok (.aload_n 0, 1) ∧ 113 + 1 = 114 := ⟨by decide +kernel, rfl⟩
theorem dCT_copyAll_114 : decode b_CT_copyAll 114 = .ok (.getfield 31, 3) ∧ 114 + 3 = 117 := ⟨by decide +kernel, rfl⟩
theorem dCT_copyAll_117 : decode b_CT_copyAll 117 = .ok (.iconst 0, 1) ∧ 117 + 1 = 118 := ⟨by decide +kernel, rfl⟩
theorem dCT_copyAll_118 : decode b_CT_copyAll 118 = .ok (.aload_n 0, 1) ∧ 118 + 1 = 119 := ⟨by decide +kernel, rfl⟩
theorem dCT_copyAll_119 : decode b_CT_copyAll 119 = .ok (.getfield 31, 3) ∧ 119 + 3 = 122 := ⟨by decide +kernel, rfl⟩
theorem dCT_copyAll_122 : decode b_CT_copyAll 122 = .ok (.arraylength, 1) ∧ 122 + 1 = 123 := ⟨by decide +kernel, rfl⟩
theorem dCT_copyAll_123 : decode b_CT_copyAll 123 = .ok (.invokestatic 50, 3) ∧ 123 + 3 = 126 := ⟨by decide +kernel, rfl⟩
theorem dCT_copyAll_126 : decode b_CT_copyAll 126 = .ok (.aload_n 0, 1) ∧ 126 + 1 = 127 := ⟨by decide +kernel, rfl⟩
theorem dCT_copyAll_127 : decode b_CT_copyAll 127 = .ok (.aload_n 1, 1) ∧ 127 + 1 = 128 := ⟨by decide +kernel, rfl⟩
theorem dCT_copyAll_128 : decode b_CT_copyAll 128 = .ok (.getfield 40, 3) ∧ 128 + 3 = 131 := ⟨by decide +kernel, rfl⟩
theorem dCT_copyAll_131 : decode b_CT_copyAll 131 = .ok (.putfield 40, 3) ∧ 131 + 3 = 134 := ⟨by decide +kernel, rfl⟩
theorem dCT_copyAll_134 : decode b_CT_copyAll 134 = .ok (.aload_n 0, 1) ∧ 134 + 1 = 135 := ⟨by decide +kernel, rfl⟩
theorem dCT_copyAll_135 : decode b_CT_copyAll 135 = .ok (.aload_n 1, 1) ∧ 135 + 1 = 136 := ⟨by decide +kernel, rfl⟩
theorem dCT_copyAll_136 : decode b_CT_copyAll 136 = .ok (.getfield 44, 3) ∧ 136 + 3 = 139 := ⟨by decide +kernel, rfl⟩
theorem dCT_copyAll_139 : decode b_CT_copyAll 139 = .ok (.putfield 44, 3) ∧ 139 + 3 = 142 := ⟨by decide +kernel, rfl⟩
theorem dCT_copyAll_142 : decode b_CT_copyAll 142 = .ok (.aload_n 0, 1) ∧ 142 + 1 = 143 := ⟨by decide +kernel, rfl⟩
theorem dCT_copyAll_143 : decode b_CT_copyAll 143 = .ok (.aload_n 1, 1) ∧ 143 + 1 = 144 := ⟨by decide +kernel, rfl⟩
theorem dCT_copyAll_144 : decode b_CT_copyAll 144 = .ok (.getfield 47, 3) ∧ 144 + 3 = 147 := ⟨by decide +kernel, rfl⟩
theorem dCT_copyAll_147 : decode b_CT_copyAll 147 = .ok (.putfield 47, 3) ∧ 147 + 3 = 150 := ⟨by decide +kernel, rfl⟩
theorem dCT_copyAll_150 : decode b_CT_copyAll 150 = .ok (.return_, 1) ∧ 150 + 1 = 151 := ⟨by decide +kernel, rfl⟩
theorem dOF_keep_0 : decode b_OF_keep 0 = .ok (.aload_n 0, 1) ∧ 0 + 1 = 1 := ⟨by decide +kernel, rfl⟩
theorem dOF_keep_1 : decode b_OF_keep 1 = .ok (.getfield 12, 3) ∧ 1 + 3 = 4 := ⟨by decide +kernel, rfl⟩
theorem dOF_keep_4 : decode b_OF_keep 4 = .ok (.aload_n 0, 1) ∧ 4 + 1 = 5 := ⟨by decide +kernel, rfl⟩
theorem dOF_keep_5 : decode b_OF_keep 5 = .ok (.getfield 16, 3) ∧ 5 + 3 = 8 := ⟨by decide +kernel, rfl⟩
theorem dOF_keep_8 : decode b_OF_keep 8 = .ok (.invokevirtual 162, 3) ∧ 8 + 3 = 11 := ⟨by decide +kernel, rfl⟩
theorem dOF_keep_11 : decode b_OF_keep 11 = .ok (.aload_n 0, 1) ∧ 11 + 1 = 12 := ⟨by decide +kernel, rfl⟩
theorem dOF_keep_12 : decode b_OF_keep 12 = .ok (.iconst 0, 1) ∧ 12 + 1 = 13 := ⟨by decide +kernel, rfl⟩
theorem dOF_keep_13 : decode b_OF_keep 13 = .ok (.putfield 67, 3) ∧ 13 + 3 = 16 := ⟨by decide +kernel, rfl⟩
theorem dOF_keep_16 : decode b_OF_keep 16 = .ok (.return_, 1) ∧ 16 + 1 = 17 := ⟨by decide +kernel, rfl⟩
theorem dOF_section_0 : decode b_OF_section 0 = .ok (.iload_n 1, 1) ∧ 0 + 1 = 1 := ⟨by decide +kernel, rfl⟩
theorem dOF_section_1 : decode b_OF_section 1 = .ok (.ifCond .lt (8), 3) ∧ 1 + 3 = 4 ∧ ((1 : Nat) : Int) + (8) = ((9 : Nat) : Int) := ⟨by decide +kernel, rfl, by decide⟩
theorem dOF_section_4 : decode b_OF_section 4 = .ok (.iload_n 1, 1) ∧ 4 + 1 = 5 := ⟨by decide +kernel, rfl⟩
theorem dOF_section_5 : decode b_OF_section 5 = .ok (.iconst 3, 1) ∧ 5 + 1 = 6 := ⟨by decide +kernel, rfl⟩
theorem dOF_section_6 : decode b_OF_section 6 = .ok (.if_icmp .le (5), 3) ∧ 6 + 3 = 9 ∧ ((6 : Nat) : Int) + (5) = ((11 : Nat) : Int) := ⟨by decide +kernel, rfl, by decide⟩
theorem dOF_section_9 : decode b_OF_section 9 = .ok (.iconst (-1), 1) ∧ 9 + 1 = 10 := ⟨by decide +kernel, rfl⟩
theorem dOF_section_10 : decode b_OF_section 10 = .ok (.ireturn, 1) ∧ 10 + 1 = 11 := ⟨by decide +kernel, rfl⟩
theorem dOF_section_11 : decode b_OF_section 11 = .ok (.iload_n 2, 1) ∧ 11 + 1 = 12 := ⟨by decide +kernel, rfl⟩
theorem dOF_section_12 : decode b_OF_section 12 = .ok (.lookupswitch (48) #[(0, 28), (1, 38)], 28) ∧ True := ⟨by decide +kernel, trivial⟩
theorem dOF_section_40 : decode b_OF_section 40 = .ok (.aload_n 0, 1) ∧ 40 + 1 = 41 := ⟨by decide +kernel, rfl⟩
theorem dOF_section_41 : decode b_OF_section 41 = .ok (.getfield 16, 3) ∧ 41 + 3 = 44 := ⟨by decide +kernel, rfl⟩
theorem dOF_section_44 : decode b_OF_section 44 = .ok (.getfield 75, 3) ∧ 44 + 3 = 47 := ⟨by decide +kernel, rfl⟩
theorem dOF_section_47 : decode b_OF_section 47 = .ok (.iload_n 1, 1) ∧ 47 + 1 = 48 := ⟨by decide +kernel, rfl⟩
theorem dOF_section_48 : decode b_OF_section 48 = .ok (.iaload, 1) ∧ 48 + 1 = 49 := ⟨by decide +kernel, rfl⟩
theorem dOF_section_49 : decode b_OF_section 49 = .ok (.ireturn, 1) ∧ 49 + 1 = 50 := ⟨by decide +kernel, rfl⟩
theorem dOF_section_50 : decode b_OF_section 50 = .ok (.aload_n 0, 1) ∧ 50 + 1 = 51 := ⟨by decide +kernel, rfl⟩
theorem dOF_section_51 : decode b_OF_section 51 = .ok (.getfield 16, 3) ∧ 51 + 3 = 54 := ⟨by decide +kernel, rfl⟩
theorem dOF_section_54 : decode b_OF_section 54 = .ok (.getfield 79, 3) ∧ 54 + 3 = 57 := ⟨by decide +kernel, rfl⟩
theorem dOF_section_57 : decode b_OF_section 57 = .ok (.iload_n 1, 1) ∧ 57 + 1 = 58 := ⟨by decide +kernel, rfl⟩
theorem dOF_section_58 : decode b_OF_section 58 = .ok (.iaload, 1) ∧ 58 + 1 = 59 := ⟨by decide +kernel, rfl⟩
theorem dOF_section_59 : decode b_OF_section 59 = .ok (.ireturn, 1) ∧ 59 + 1 = 60 := ⟨by decide +kernel, rfl⟩
theorem dOF_section_60 : decode b_OF_section 60 = .ok (.iconst (-1), 1) ∧ 60 + 1 = 61 := ⟨by decide +kernel, rfl⟩
theorem dOF_section_61 : decode b_OF_section 61 = .ok (.ireturn, 1) ∧ 61 + 1 = 62 := ⟨by decide +kernel, rfl⟩
theorem dOF_at_0 : decode b_OF_at 0 = .ok (.aload_n 0, 1) ∧ 0 + 1 = 1 := ⟨by decide +kernel, rfl⟩
theorem dOF_at_1 : decode b_OF_at 1 = .ok (.getfield 16, 3) ∧ 1 + 3 = 4 := ⟨by decide +kernel, rfl⟩
theorem dOF_at_4 : decode b_OF_at 4 = .ok (.iload_n 1, 1) ∧ 4 + 1 = 5 := ⟨by decide +kernel, rfl⟩
theorem dOF_at_5 : decode b_OF_at 5 = .ok (.iload_n 2, 1) ∧ 5 + 1 = 6 := ⟨by decide +kernel, rfl⟩
theorem dOF_at_6 : decode b_OF_at 6 = .ok (.invokevirtual 165, 3) ∧ 6 + 3 = 9 := ⟨by decide +kernel, rfl⟩
theorem dOF_at_9 : decode b_OF_at 9 = .ok (.ireturn, 1) ∧ 9 + 1 = 10 := ⟨by decide +kernel, rfl⟩
theorem dOF_count_0 : decode b_OF_count 0 = .ok (.iload_n 1, 1) ∧ 0 + 1 = 1 := ⟨by decide +kernel, rfl⟩
theorem dOF_count_1 : decode b_OF_count 1 = .ok (.tableswitch (63) (0) (3) #[31, 39, 47, 55], 31) ∧ True := ⟨by decide +kernel, trivial⟩
theorem dOF_count_32 : decode b_OF_count 32 = .ok (.aload_n 0, 1) ∧ 32 + 1 = 33 := ⟨by decide +kernel, rfl⟩
theorem dOF_count_33 : decode b_OF_count 33 = .ok (.getfield 16, 3) ∧ 33 + 3 = 36 := ⟨by decide +kernel, rfl⟩
theorem dOF_count_36 : decode b_OF_count 36 = .ok (.getfield 169, 3) ∧ 36 + 3 = 39 := ⟨by decide +kernel, rfl⟩
theorem dOF_count_39 : decode b_OF_count 39 = .ok (.ireturn, 1) ∧ 39 + 1 = 40 := ⟨by decide +kernel, rfl⟩
theorem dOF_count_40 : decode b_OF_count 40 = .ok (.aload_n 0, 1) ∧ 40 + 1 = 41 := ⟨by decide +kernel, rfl⟩
theorem dOF_count_41 : decode b_OF_count 41 = .ok (.getfield 16, 3) ∧ 41 + 3 = 44 := ⟨by decide +kernel, rfl⟩
theorem dOF_count_44 : decode b_OF_count 44 = .ok (.getfield 121, 3) ∧ 44 + 3 = 47 := ⟨by decide +kernel, rfl⟩
theorem dOF_count_47 : decode b_OF_count 47 = .ok (.ireturn, 1) ∧ 47 + 1 = 48 := ⟨by decide +kernel, rfl⟩
theorem dOF_count_48 : decode b_OF_count 48 = .ok (.aload_n 0, 1) ∧ 48 + 1 = 49 := ⟨by decide +kernel, rfl⟩
theorem dOF_count_49 : decode b_OF_count 49 = .ok (.getfield 16, 3) ∧ 49 + 3 = 52 := ⟨by decide +kernel, rfl⟩
theorem dOF_count_52 : decode b_OF_count 52 = .ok (.getfield 172, 3) ∧ 52 + 3 = 55 := ⟨by decide +kernel, rfl⟩
theorem dOF_count_55 : decode b_OF_count 55 = .ok (.ireturn, 1) ∧ 55 + 1 = 56 := ⟨by decide +kernel, rfl⟩
theorem dOF_count_56 : decode b_OF_count 56 = .ok (.aload_n 0, 1) ∧ 56 + 1 = 57 := ⟨by decide +kernel, rfl⟩
theorem dOF_count_57 : decode b_OF_count 57 = .ok (.getfield 16, 3) ∧ 57 + 3 = 60 := ⟨by decide +kernel, rfl⟩
theorem dOF_count_60 : decode b_OF_count 60 = .ok (.invokevirtual 175, 3) ∧ 60 + 3 = 63 := ⟨by decide +kernel, rfl⟩
theorem dOF_count_63 : decode b_OF_count 63 = .ok (.ireturn, 1) ∧ 63 + 1 = 64 := ⟨by decide +kernel, rfl⟩
theorem dOF_count_64 : decode b_OF_count 64 = .ok (.iconst (-1), 1) ∧ 64 + 1 = 65 := ⟨by decide +kernel, rfl⟩
theorem dOF_count_65 : decode b_OF_count 65 = .ok (.ireturn, 1) ∧ 65 + 1 = 66 := ⟨by decide +kernel, rfl⟩
theorem dOF_startAt_0 : decode b_OF_startAt 0 = .ok (.aload_n 0, 1) ∧ 0 + 1 = 1 := ⟨by decide +kernel, rfl⟩
theorem dOF_startAt_1 : decode b_OF_startAt 1 = .ok (.getfield 16, 3) ∧ 1 + 3 = 4 := ⟨by decide +kernel, rfl⟩
theorem dOF_startAt_4 : decode b_OF_startAt 4 = .ok (.iload_n 1, 1) ∧ 4 + 1 = 5 := ⟨by decide +kernel, rfl⟩
theorem dOF_startAt_5 : decode b_OF_startAt 5 = .ok (.invokevirtual 178, 3) ∧ 5 + 3 = 8 := ⟨by decide +kernel, rfl⟩
theorem dOF_startAt_8 : decode b_OF_startAt 8 = .ok (.ireturn, 1) ∧ 8 + 1 = 9 := ⟨by decide +kernel, rfl⟩
theorem dOF_symbolAt_0 : decode b_OF_symbolAt 0 = .ok (.iload_n 2, 1) ∧ 0 + 1 = 1 := ⟨by decide +kernel, rfl⟩
theorem dOF_symbolAt_1 : decode b_OF_symbolAt 1 = .ok (.bipush (6), 2) ∧ 1 + 2 = 3 := ⟨by decide +kernel, rfl⟩
theorem dOF_symbolAt_3 : decode b_OF_symbolAt 3 = .ok (.if_icmp .ge (15), 3) ∧ 3 + 3 = 6 ∧ ((3 : Nat) : Int) + (15) = ((18 : Nat) : Int) := ⟨by decide +kernel, rfl, by decide⟩
theorem dOF_symbolAt_6 : decode b_OF_symbolAt 6 = .ok (.aload_n 0, 1) ∧ 6 + 1 = 7 := ⟨by decide +kernel, rfl⟩
theorem dOF_symbolAt_7 : decode b_OF_symbolAt 7 = .ok (.getfield 16, 3) ∧ 7 + 3 = 10 := ⟨by decide +kernel, rfl⟩
theorem dOF_symbolAt_10 : decode b_OF_symbolAt 10 = .ok (.iload_n 1, 1) ∧ 10 + 1 = 11 := ⟨by decide +kernel, rfl⟩
theorem dOF_symbolAt_11 : decode b_OF_symbolAt 11 = .ok (.iload_n 2, 1) ∧ 11 + 1 = 12 := ⟨by decide +kernel, rfl⟩
theorem dOF_symbolAt_12 : decode b_OF_symbolAt 12 = .ok (.invokevirtual 181, 3) ∧ 12 + 3 = 15 := ⟨by decide +kernel, rfl⟩
theorem dOF_symbolAt_15 : decode b_OF_symbolAt 15 = .ok (.goto (15), 3) ∧ 15 + 3 = 18 ∧ ((15 : Nat) : Int) + (15) = ((30 : Nat) : Int) := ⟨by decide +kernel, rfl, by decide⟩
theorem dOF_symbolAt_18 : decode b_OF_symbolAt 18 = .ok (.aload_n 0, 1) ∧ 18 + 1 = 19 := ⟨by decide +kernel, rfl⟩
theorem dOF_symbolAt_19 : decode b_OF_symbolAt 19 = .ok (.getfield 16, 3) ∧ 19 + 3 = 22 := ⟨by decide +kernel, rfl⟩
theorem dOF_symbolAt_22 : decode b_OF_symbolAt 22 = .ok (.iload_n 1, 1) ∧ 22 + 1 = 23 := ⟨by decide +kernel, rfl⟩
theorem dOF_symbolAt_23 : decode b_OF_symbolAt 23 = .ok (.iload_n 2, 1) ∧ 23 + 1 = 24 := ⟨by decide +kernel, rfl⟩
theorem dOF_symbolAt_24 : decode b_OF_symbolAt 24 = .ok (.bipush (6), 2) ∧ 24 + 2 = 26 := ⟨by decide +kernel, rfl⟩
theorem dOF_symbolAt_26 : decode b_OF_symbolAt 26 = .ok (.isub, 1) ∧ 26 + 1 = 27 := ⟨by decide +kernel, rfl⟩
theorem dOF_symbolAt_27 : decode b_OF_symbolAt 27 = .ok (.invokevirtual 184, 3) ∧ 27 + 3 = 30 := ⟨by decide +kernel, rfl⟩
theorem dOF_symbolAt_30 : decode b_OF_symbolAt 30 = .ok (.ireturn, 1) ∧ 30 + 1 = 31 := ⟨by decide +kernel, rfl⟩
theorem dOF_relocationAt_0 : decode b_OF_relocationAt 0 = .ok (.aload_n 0, 1) ∧ 0 + 1 = 1 := ⟨by decide +kernel, rfl⟩
theorem dOF_relocationAt_1 : decode b_OF_relocationAt 1 = .ok (.getfield 16, 3) ∧ 1 + 3 = 4 := ⟨by decide +kernel, rfl⟩
theorem dOF_relocationAt_4 : decode b_OF_relocationAt 4 = .ok (.iload_n 1, 1) ∧ 4 + 1 = 5 := ⟨by decide +kernel, rfl⟩
theorem dOF_relocationAt_5 : decode b_OF_relocationAt 5 = .ok (.iload_n 2, 1) ∧ 5 + 1 = 6 := ⟨by decide +kernel, rfl⟩
theorem dOF_relocationAt_6 : decode b_OF_relocationAt 6 = .ok (.invokevirtual 187, 3) ∧ 6 + 3 = 9 := ⟨by decide +kernel, rfl⟩
theorem dOF_relocationAt_9 : decode b_OF_relocationAt 9 = .ok (.ireturn, 1) ∧ 9 + 1 = 10 := ⟨by decide +kernel, rfl⟩
