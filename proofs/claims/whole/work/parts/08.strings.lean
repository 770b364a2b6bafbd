theorem mw_SG_coder : gMw gTs y_SG_coder b_SG_coder 1 (some .byte) 0 := ⟨gT0 (gI2 233 rfl) rfl, gT0 (gI1 12 rfl) rfl, by decide, by decide, by decide +kernel⟩
theorem mi_SG_coder : Cond.instanceMethod y_SG_coder ∈ gTs := gT0 (gI2 231 rfl) rfl
theorem ms_SG_coder : Cond.selects "java/lang/String" y_SG_coder y_SG_coder ∈ gTs := gT0 (gI2 232 rfl) rfl
theorem dSG_coder_0 : decode b_SG_coder 0 = .ok (.getstatic 38, 3) ∧ 0 + 3 = 3 := ⟨by decide +kernel, rfl⟩
theorem dSG_coder_3 : decode b_SG_coder 3 = .ok (.ifCond .eq (10), 3) ∧ 3 + 3 = 6 ∧ ((3 : Nat) : Int) + (10) = ((13 : Nat) : Int) := ⟨by decide +kernel, rfl, by decide⟩
theorem dSG_coder_6 : decode b_SG_coder 6 = .ok (.aload_n 0, 1) ∧ 6 + 1 = 7 := ⟨by decide +kernel, rfl⟩
theorem dSG_coder_7 : decode b_SG_coder 7 = .ok (.getfield 15, 3) ∧ 7 + 3 = 10 := ⟨by decide +kernel, rfl⟩
theorem dSG_coder_10 : decode b_SG_coder 10 = .ok (.goto (4), 3) ∧ 10 + 3 = 13 ∧ ((10 : Nat) : Int) + (4) = ((14 : Nat) : Int) := ⟨by decide +kernel, rfl, by decide⟩
theorem dSG_coder_13 : decode b_SG_coder 13 = .ok (.iconst 1, 1) ∧ 13 + 1 = 14 := ⟨by decide +kernel, rfl⟩
theorem dSG_coder_14 : decode b_SG_coder 14 = .ok (.ireturn, 1) ∧ 14 + 1 = 15 := ⟨by decide +kernel, rfl⟩
theorem mw_SG_isLatin1 : gMw gTs y_SG_isLatin1 b_SG_isLatin1 1 (some .boolean) 0 := ⟨gT0 (gI3 6 rfl) rfl, gT0 (gI1 12 rfl) rfl, by decide, by decide, by decide +kernel⟩
theorem mi_SG_isLatin1 : Cond.instanceMethod y_SG_isLatin1 ∈ gTs := gT0 (gI3 4 rfl) rfl
theorem ms_SG_isLatin1 : Cond.selects "java/lang/String" y_SG_isLatin1 y_SG_isLatin1 ∈ gTs := gT0 (gI3 5 rfl) rfl
theorem dSG_isLatin1_0 : decode b_SG_isLatin1 0 = .ok (.getstatic 38, 3) ∧ 0 + 3 = 3 := ⟨by decide +kernel, rfl⟩
theorem dSG_isLatin1_3 : decode b_SG_isLatin1 3 = .ok (.ifCond .eq (14), 3) ∧ 3 + 3 = 6 ∧ ((3 : Nat) : Int) + (14) = ((17 : Nat) : Int) := ⟨by decide +kernel, rfl, by decide⟩
theorem dSG_isLatin1_6 : decode b_SG_isLatin1 6 = .ok (.aload_n 0, 1) ∧ 6 + 1 = 7 := ⟨by decide +kernel, rfl⟩
theorem dSG_isLatin1_7 : decode b_SG_isLatin1 7 = .ok (.getfield 15, 3) ∧ 7 + 3 = 10 := ⟨by decide +kernel, rfl⟩
theorem dSG_isLatin1_10 : decode b_SG_isLatin1 10 = .ok (.ifCond .ne (7), 3) ∧ 10 + 3 = 13 ∧ ((10 : Nat) : Int) + (7) = ((17 : Nat) : Int) := ⟨by decide +kernel, rfl, by decide⟩
theorem dSG_isLatin1_13 : decode b_SG_isLatin1 13 = .ok (.iconst 1, 1) ∧ 13 + 1 = 14 := ⟨by decide +kernel, rfl⟩
theorem dSG_isLatin1_14 : decode b_SG_isLatin1 14 = .ok (.goto (4), 3) ∧ 14 + 3 = 17 ∧ ((14 : Nat) : Int) + (4) = ((18 : Nat) : Int) := ⟨by decide +kernel, rfl, by decide⟩
theorem dSG_isLatin1_17 : decode b_SG_isLatin1 17 = .ok (.iconst 0, 1) ∧ 17 + 1 = 18 := ⟨by decide +kernel, rfl⟩
theorem dSG_isLatin1_18 : decode b_SG_isLatin1 18 = .ok (.ireturn, 1) ∧ 18 + 1 = 19 := ⟨by decide +kernel, rfl⟩
theorem mw_SG_length : gMw gTs y_SG_length b_SG_length 1 (some .int) 0 := ⟨gT0 (gI2 229 rfl) rfl, gT0 (gI1 12 rfl) rfl, by decide, by decide, by decide +kernel⟩
theorem mi_SG_length : Cond.instanceMethod y_SG_length ∈ gTs := gT0 (gI2 227 rfl) rfl
theorem ms_SG_length : Cond.selects "java/lang/String" y_SG_length y_SG_length ∈ gTs := gT0 (gI2 228 rfl) rfl
theorem dSG_length_0 : decode b_SG_length 0 = .ok (.aload_n 0, 1) ∧ 0 + 1 = 1 := ⟨by decide +kernel, rfl⟩
theorem dSG_length_1 : decode b_SG_length 1 = .ok (.getfield 9, 3) ∧ 1 + 3 = 4 := ⟨by decide +kernel, rfl⟩
theorem dSG_length_4 : decode b_SG_length 4 = .ok (.arraylength, 1) ∧ 4 + 1 = 5 := ⟨by decide +kernel, rfl⟩
theorem dSG_length_5 : decode b_SG_length 5 = .ok (.aload_n 0, 1) ∧ 5 + 1 = 6 := ⟨by decide +kernel, rfl⟩
theorem dSG_length_6 : decode b_SG_length 6 = .ok (.invokevirtual 335, 3) ∧ 6 + 3 = 9 := ⟨by decide +kernel, rfl⟩
theorem dSG_length_9 : decode b_SG_length 9 = .ok (.ishr, 1) ∧ 9 + 1 = 10 := ⟨by decide +kernel, rfl⟩
theorem dSG_length_10 : decode b_SG_length 10 = .ok (.ireturn, 1) ∧ 10 + 1 = 11 := ⟨by decide +kernel, rfl⟩
theorem mw_SG_charAt : gMw gTs y_SG_charAt b_SG_charAt 2 (some .char) 1 := ⟨gT0 (gI3 2 rfl) rfl, gT0 (gI1 12 rfl) rfl, by decide, by decide, by decide +kernel⟩
theorem mi_SG_charAt : Cond.instanceMethod y_SG_charAt ∈ gTs := gT0 (gI3 0 rfl) rfl
theorem ms_SG_charAt : Cond.selects "java/lang/String" y_SG_charAt y_SG_charAt ∈ gTs := gT0 (gI3 1 rfl) rfl
theorem dSG_charAt_0 : decode b_SG_charAt 0 = .ok (.aload_n 0, 1) ∧ 0 + 1 = 1 := ⟨by decide +kernel, rfl⟩
theorem dSG_charAt_1 : decode b_SG_charAt 1 = .ok (.invokevirtual 492, 3) ∧ 1 + 3 = 4 := ⟨by decide +kernel, rfl⟩
theorem dSG_charAt_4 : decode b_SG_charAt 4 = .ok (.ifCond .eq (12), 3) ∧ 4 + 3 = 7 ∧ ((4 : Nat) : Int) + (12) = ((16 : Nat) : Int) := ⟨by decide +kernel, rfl, by decide⟩
theorem dSG_charAt_7 : decode b_SG_charAt 7 = .ok (.aload_n 0, 1) ∧ 7 + 1 = 8 := ⟨by decide +kernel, rfl⟩
theorem dSG_charAt_8 : decode b_SG_charAt 8 = .ok (.getfield 9, 3) ∧ 8 + 3 = 11 := ⟨by decide +kernel, rfl⟩
theorem dSG_charAt_11 : decode b_SG_charAt 11 = .ok (.iload_n 1, 1) ∧ 11 + 1 = 12 := ⟨by decide +kernel, rfl⟩
theorem dSG_charAt_12 : decode b_SG_charAt 12 = .ok (.invokestatic 495, 3) ∧ 12 + 3 = 15 := ⟨by decide +kernel, rfl⟩
theorem dSG_charAt_15 : decode b_SG_charAt 15 = .ok (.ireturn, 1) ∧ 15 + 1 = 16 := ⟨by decide +kernel, rfl⟩
theorem dSG_charAt_16 : decode b_SG_charAt 16 = .ok (.aload_n 0, 1) ∧ 16 + 1 = 17 := ⟨by decide +kernel, rfl⟩
theorem dSG_charAt_17 : decode b_SG_charAt 17 = .ok (.getfield 9, 3) ∧ 17 + 3 = 20 := ⟨by decide +kernel, rfl⟩
theorem dSG_charAt_20 : decode b_SG_charAt 20 = .ok (.iload_n 1, 1) ∧ 20 + 1 = 21 := ⟨by decide +kernel, rfl⟩
theorem dSG_charAt_21 : decode b_SG_charAt 21 = .ok (.invokestatic 498, 3) ∧ 21 + 3 = 24 := ⟨by decide +kernel, rfl⟩
theorem dSG_charAt_24 : decode b_SG_charAt 24 = .ok (.ireturn, 1) ∧ 24 + 1 = 25 := ⟨by decide +kernel, rfl⟩
theorem mw_SG_checkIndex : gMw gTs y_SG_checkIndex b_SG_checkIndex 2 none 2 := ⟨gT0 (gI3 12 rfl) rfl, gT0 (gI1 12 rfl) rfl, by decide, by decide, by decide +kernel⟩
theorem mt_SG_checkIndex : Cond.static y_SG_checkIndex ∈ gTs := gT0 (gI3 11 rfl) rfl
theorem dSG_checkIndex_0 : decode b_SG_checkIndex 0 = .ok (.iload_n 0, 1) ∧ 0 + 1 = 1 := ⟨by decide +kernel, rfl⟩
theorem dSG_checkIndex_1 : decode b_SG_checkIndex 1 = .ok (.iload_n 1, 1) ∧ 1 + 1 = 2 := ⟨by decide +kernel, rfl⟩
theorem dSG_checkIndex_2 : decode b_SG_checkIndex 2 = .ok (.getstatic 1053, 3) ∧ 2 + 3 = 5 := ⟨by decide +kernel, rfl⟩
theorem dSG_checkIndex_5 : decode b_SG_checkIndex 5 = .ok (.invokestatic 1059, 3) ∧ 5 + 3 = 8 := ⟨by decide +kernel, rfl⟩
theorem dSG_checkIndex_8 : decode b_SG_checkIndex 8 = .ok (.pop, 1) ∧ 8 + 1 = 9 := ⟨by decide +kernel, rfl⟩
theorem dSG_checkIndex_9 : decode b_SG_checkIndex 9 = .ok (.return_, 1) ∧ 9 + 1 = 10 := ⟨by decide +kernel, rfl⟩
theorem mw_SL_charAt : gMw gTs y_SL_charAt b_SL_charAt 2 (some .char) 2 := ⟨gT0 (gI3 9 rfl) rfl, gT0 (gI1 14 rfl) rfl, by decide, by decide, by decide +kernel⟩
theorem mt_SL_charAt : Cond.static y_SL_charAt ∈ gTs := gT0 (gI3 8 rfl) rfl
theorem dSL_charAt_0 : decode b_SL_charAt 0 = .ok (.iload_n 1, 1) ∧ 0 + 1 = 1 := ⟨by decide +kernel, rfl⟩
theorem dSL_charAt_1 : decode b_SL_charAt 1 = .ok (.aload_n 0, 1) ∧ 1 + 1 = 2 := ⟨by decide +kernel, rfl⟩
theorem dSL_charAt_2 : decode b_SL_charAt 2 = .ok (.arraylength, 1) ∧ 2 + 1 = 3 := ⟨by decide +kernel, rfl⟩
theorem dSL_charAt_3 : decode b_SL_charAt 3 = .ok (.invokestatic 9, 3) ∧ 3 + 3 = 6 := ⟨by decide +kernel, rfl⟩
theorem dSL_charAt_6 : decode b_SL_charAt 6 = .ok (.aload_n 0, 1) ∧ 6 + 1 = 7 := ⟨by decide +kernel, rfl⟩
theorem dSL_charAt_7 : decode b_SL_charAt 7 = .ok (.iload_n 1, 1) ∧ 7 + 1 = 8 := ⟨by decide +kernel, rfl⟩
theorem dSL_charAt_8 : decode b_SL_charAt 8 = .ok (.baload, 1) ∧ 8 + 1 = 9 := ⟨by decide +kernel, rfl⟩
theorem dSL_charAt_9 : decode b_SL_charAt 9 = .ok (.sipush (255), 3) ∧ 9 + 3 = 12 := ⟨by decide +kernel, rfl⟩
theorem dSL_charAt_12 : decode b_SL_charAt 12 = .ok (.iand, 1) ∧ 12 + 1 = 13 := ⟨by decide +kernel, rfl⟩
theorem dSL_charAt_13 : decode b_SL_charAt 13 = .ok (.i2c, 1) ∧ 13 + 1 = 14 := ⟨by decide +kernel, rfl⟩
theorem dSL_charAt_14 : decode b_SL_charAt 14 = .ok (.ireturn, 1) ∧ 14 + 1 = 15 := ⟨by decide +kernel, rfl⟩
theorem mw_PC_checkIndex : gMw gTs y_PC_checkIndex b_PC_checkIndex 3 (some .int) 3 := ⟨gT0 (gI3 17 rfl) rfl, gT0 (gI1 15 rfl) rfl, by decide, by decide, by decide +kernel⟩
theorem mt_PC_checkIndex : Cond.static y_PC_checkIndex ∈ gTs := gT0 (gI3 16 rfl) rfl
theorem dPC_checkIndex_0 : decode b_PC_checkIndex 0 = .ok (.iload_n 0, 1) ∧ 0 + 1 = 1 := ⟨by decide +kernel, rfl⟩
theorem dPC_checkIndex_1 : decode b_PC_checkIndex 1 = .ok (.ifCond .lt (8), 3) ∧ 1 + 3 = 4 ∧ ((1 : Nat) : Int) + (8) = ((9 : Nat) : Int) := ⟨by decide +kernel, rfl, by decide⟩
theorem dPC_checkIndex_4 : decode b_PC_checkIndex 4 = .ok (.iload_n 0, 1) ∧ 4 + 1 = 5 := ⟨by decide +kernel, rfl⟩
theorem dPC_checkIndex_5 : decode b_PC_checkIndex 5 = .ok (.iload_n 1, 1) ∧ 5 + 1 = 6 := ⟨by decide +kernel, rfl⟩
theorem dPC_checkIndex_6 : decode b_PC_checkIndex 6 = .ok (.if_icmp .lt (10), 3) ∧ 6 + 3 = 9 ∧ ((6 : Nat) : Int) + (10) = ((16 : Nat) : Int) := ⟨by decide +kernel, rfl, by decide⟩
theorem dPC_checkIndex_16 : decode b_PC_checkIndex 16 = .ok (.iload_n 0, 1) ∧ 16 + 1 = 17 := ⟨by decide +kernel, rfl⟩
theorem dPC_checkIndex_17 : decode b_PC_checkIndex 17 = .ok (.ireturn, 1) ∧ 17 + 1 = 18 := ⟨by decide +kernel, rfl⟩
section SG
variable {l : Launch} {D : va_G} {ta : Nat → ClassId} {base : Nat} {sa : Nat → Nat} {M : gMem}
theorem m_SG_coder {k : Nat} (hk : k < gSn) : GC gLay gCl D ta base gNw sa gTabs gTs l y_SG_coder b_SG_coder 1 (some .byte) 0 0 [.ref (sa (100 + k))] M (gPi (fun r M' => r = 0 ∧ M' = M)) := by
  refine GC.ofF (own := "java/lang/String") (by decide +kernel) rfl (Nat.le_of_ble_eq_true rfl) ?_
  intro p e s m below meth c X hK hr hlk
  refine g_args (L' := [(0, .ref (sa (100 + k)))]) rfl ?_
  refine g_compact X hK (gT0 (gI2 234 rfl) rfl : Cond.fieldLink "java/lang/String" 38 "java/lang/String" "COMPACT_STRINGS" "Z" ∈ gTs) dSG_coder_0 ?_
  refine g_if_eq X dSG_coder_3 (fun c => absurd c (by decide)) (fun c => ?_)
  refine g_aload_n X dSG_coder_6 rfl 0 rfl ?_
  refine g_scod X hK hk (gT0 (gI6 203 rfl) rfl : Cond.fieldLink "java/lang/String" 15 "java/lang/String" "coder" "B" ∈ gTs) dSG_coder_7 ?_
  refine g_goto X dSG_coder_10 ?_
  exact g_nret X hr hlk (by decide) dSG_coder_14 ⟨0, rfl, rfl, rfl⟩
theorem m_SG_isLatin1 {k : Nat} (hk : k < gSn) : GC gLay gCl D ta base gNw sa gTabs gTs l y_SG_isLatin1 b_SG_isLatin1 1 (some .boolean) 0 0 [.ref (sa (100 + k))] M (gPz (fun r M' => r = true ∧ M' = M)) := by
  refine GC.ofF (own := "java/lang/String") (by decide +kernel) rfl (Nat.le_of_ble_eq_true rfl) ?_
  intro p e s m below meth c X hK hr hlk
  refine g_args (L' := [(0, .ref (sa (100 + k)))]) rfl ?_
  refine g_compact X hK (gT0 (gI2 234 rfl) rfl : Cond.fieldLink "java/lang/String" 38 "java/lang/String" "COMPACT_STRINGS" "Z" ∈ gTs) dSG_isLatin1_0 ?_
  refine g_if_eq X dSG_isLatin1_3 (fun c => absurd c (by decide)) (fun c => ?_)
  refine g_aload_n X dSG_isLatin1_6 rfl 0 rfl ?_
  refine g_scod X hK hk (gT0 (gI6 203 rfl) rfl : Cond.fieldLink "java/lang/String" 15 "java/lang/String" "coder" "B" ∈ gTs) dSG_isLatin1_7 ?_
  refine g_if_ne X dSG_isLatin1_10 (fun c => absurd rfl c) (fun c => ?_)
  refine g_iconst X (v := (1 : Int32)) dSG_isLatin1_13 (by decide) ?_
  refine g_goto X dSG_isLatin1_14 ?_
  exact g_zret X hr hlk (by decide) dSG_isLatin1_18 ⟨true, rfl, rfl, rfl⟩
theorem m_SG_length {k : Nat} (hk : k < gSn) : GC gLay gCl D ta base gNw sa gTabs gTs l y_SG_length b_SG_length 1 (some .int) 1 20 [.ref (sa (100 + k))] M (gPi (fun r M' => r = gSlen k ∧ M' = M)) := by
  refine GC.ofF (own := "java/lang/String") (by decide +kernel) rfl (Nat.le_of_ble_eq_true rfl) ?_
  intro p e s m below meth c X hK hr hlk
  refine g_args (L' := [(0, .ref (sa (100 + k)))]) rfl ?_
  refine g_aload_n X dSG_length_0 rfl 0 rfl ?_
  refine g_sval X hK hk (gT0 (gI6 202 rfl) rfl : Cond.fieldLink "java/lang/String" 9 "java/lang/String" "value" "[B" ∈ gTs) dSG_length_1 ?_
  refine g_slen X hK hk dSG_length_4 ?_
  refine g_aload_n X dSG_length_5 rfl 0 rfl ?_
  refine g_callK X hK gTs_ok hk mw_SG_coder (gT0 (gI2 230 rfl) rfl : Cond.methodLink "java/lang/String" 335 ⟨"java/lang/String", "coder", "()B"⟩ ∈ gTs) mi_SG_coder ms_SG_coder (As := []) rfl ⟨Nat.le_of_ble_eq_true rfl, Nat.le_of_ble_eq_true rfl, Nat.le_refl _, Nat.le_refl _⟩ (m_SG_coder hk) (rest := [.int (gSlen k)]) rfl (Nat.le_of_ble_eq_true rfl) dSG_length_6 (gk_i (fun r M9 e => ?_))
  obtain ⟨rfl, rfl⟩ := e
  refine g_ishr X dSG_length_9 ?_
  exact g_iret X hr hlk dSG_length_10 ⟨_, rfl, sb_shr0 _, rfl⟩
theorem m_PC_checkIndex {a b : Int32} {v : Value} (hv : v = .null ∨ ∃ t, v = .ref t) (h1 : ¬ a < 0) (h2 : a < b) : GC gLay gCl D ta base gNw sa gTabs gTs l y_PC_checkIndex b_PC_checkIndex 3 (some .int) 0 0 [.int a, .int b, v] M (gPi (fun r M' => r = a ∧ M' = M)) := by
  refine GC.ofF (own := "jdk/internal/util/Preconditions") (by decide +kernel) rfl ?_ ?_
  · rcases hv with rfl | ⟨t, rfl⟩ <;> exact Nat.le_of_ble_eq_true rfl
  intro p e s m below meth c X hK hr hlk
  refine g_args (L' := [(0, .int a), (1, .int b), (2, v)]) rfl ?_
  refine g_iload_n X dPC_checkIndex_0 rfl 0 rfl ?_
  refine g_if_lt X dPC_checkIndex_1 (fun c => absurd c h1) (fun c => ?_)
  refine g_iload_n X dPC_checkIndex_4 rfl 0 rfl ?_
  refine g_iload_n X dPC_checkIndex_5 rfl 1 rfl ?_
  refine g_icmp_lt X dPC_checkIndex_6 (fun c => ?_) (fun c => absurd h2 c)
  refine g_iload_n X dPC_checkIndex_16 rfl 0 rfl ?_
  exact g_iret X hr hlk dPC_checkIndex_17 ⟨_, rfl, rfl, rfl⟩
theorem gSu_or : gSu sa = .null ∨ ∃ t, gSu sa = .ref t := va_rf_or _
theorem m_SG_checkIndex {a b : Int32} (h1 : ¬ a < 0) (h2 : a < b) : GC gLay gCl D ta base gNw sa gTabs gTs l y_SG_checkIndex b_SG_checkIndex 2 none 1 22 [.int a, .int b] M (gPv (fun M' => M' = M)) := by
  refine GC.ofF (own := "java/lang/String") (by decide +kernel) rfl (Nat.le_of_ble_eq_true rfl) ?_
  intro p e s m below meth c X hK hr hlk
  refine g_args (L' := [(0, .int a), (1, .int b)]) rfl ?_
  refine g_iload_n X dSG_checkIndex_0 rfl 0 rfl ?_
  refine g_iload_n X dSG_checkIndex_1 rfl 1 rfl ?_
  refine g_format X hK (gT0 (gI3 13 rfl) rfl : Cond.fieldLink "java/lang/String" 1053 "jdk/internal/util/Preconditions" "SIOOBE_FORMATTER" "Ljava/util/function/BiFunction;" ∈ gTs) dSG_checkIndex_2 ?_
  refine g_callS X hK gTs_ok mw_PC_checkIndex (gT0 (gI3 15 rfl) rfl : Cond.methodLink "java/lang/String" 1059 ⟨"jdk/internal/util/Preconditions", "checkIndex", "(IILjava/util/function/BiFunction;)I"⟩ ∈ gTs) mt_PC_checkIndex (As := [.int a, .int b, gSu sa]) rfl ⟨Nat.le_of_ble_eq_true rfl, Nat.le_of_ble_eq_true rfl, Nat.le_refl _, Nat.le_refl _⟩ (m_PC_checkIndex gSu_or h1 h2) (rest := []) rfl (Nat.le_of_ble_eq_true rfl) dSG_checkIndex_5 (gk_i (fun r M9 e => ?_))
  obtain ⟨rfl, rfl⟩ := e
  refine g_pop X dSG_checkIndex_8 rfl ?_
  exact g_vret X hr hlk dSG_checkIndex_9 ⟨rfl, rfl⟩
theorem gSl_lt {k : Nat} (hk : k < gSn) : gSl k < 2 ^ 31 := by
  have h : ∀ k, k < gSn → gSl k < 2 ^ 31 := by decide +kernel
  exact h k hk
theorem m_SL_charAt {k : Nat} {i : Int32} (hk : k < gSn) (hi : vp_in i (gSl k)) : GC gLay gCl D ta base gNw sa gTabs gTs l y_SL_charAt b_SL_charAt 2 (some .char) 2 43 [.ref (sa (200 + k)), .int i] M (gPi (fun r M' => r = gSch k i ∧ M' = M)) := by
  obtain ⟨j, hj, rfl⟩ := vp_in_of hi (gSl_lt hk)
  have hL := gSl_lt hk
  refine GC.ofF (own := "java/lang/StringLatin1") (by decide +kernel) rfl (Nat.le_of_ble_eq_true rfl) ?_
  intro p e s m below meth c X hK hr hlk
  refine g_args (L' := [(0, .ref (sa (200 + k))), (1, .int (nI j))]) rfl ?_
  refine g_iload_n X dSL_charAt_0 rfl 1 rfl ?_
  refine g_aload_n X dSL_charAt_1 rfl 0 rfl ?_
  refine g_slen X hK hk dSL_charAt_2 ?_
  refine g_callS X hK gTs_ok mw_SG_checkIndex (gT0 (gI3 10 rfl) rfl : Cond.methodLink "java/lang/StringLatin1" 9 ⟨"java/lang/String", "checkIndex", "(II)V"⟩ ∈ gTs) mt_SG_checkIndex (As := [.int (nI j), .int (gSlen k)]) rfl ⟨Nat.le_of_ble_eq_true rfl, Nat.le_of_ble_eq_true rfl, Nat.le_refl _, Nat.le_refl _⟩ (m_SG_checkIndex (nI_pos (by omega)) (nI_lt hj hL)) (rest := []) rfl (Nat.le_of_ble_eq_true rfl) dSL_charAt_3 (gk_v (fun M9 e => ?_))
  subst e
  refine g_aload_n X dSL_charAt_6 rfl 0 rfl ?_
  refine g_iload_n X dSL_charAt_7 rfl 1 rfl ?_
  refine g_sbyt X hK hk hi dSL_charAt_8 ?_
  refine g_sipush X (v := (255 : Int32)) dSL_charAt_9 (by decide) ?_
  refine g_iand X dSL_charAt_12 ?_
  refine g_i2c X dSL_charAt_13 rfl ?_
  exact g_nret X hr hlk (pk_nc _) dSL_charAt_14 ⟨_, rfl, rfl, rfl⟩
theorem m_SG_charAt {k : Nat} {i : Int32} (hk : k < gSn) (hi : vp_in i (gSl k)) : GC gLay gCl D ta base gNw sa gTabs gTs l y_SG_charAt b_SG_charAt 2 (some .char) 3 64 [.ref (sa (100 + k)), .int i] M (gPi (fun r M' => r = gSch k i ∧ M' = M)) := by
  refine GC.ofF (own := "java/lang/String") (by decide +kernel) rfl (Nat.le_of_ble_eq_true rfl) ?_
  intro p e s m below meth c X hK hr hlk
  refine g_args (L' := [(0, .ref (sa (100 + k))), (1, .int i)]) rfl ?_
  refine g_aload_n X dSG_charAt_0 rfl 0 rfl ?_
  refine g_callK X hK gTs_ok hk mw_SG_isLatin1 (gT0 (gI3 3 rfl) rfl : Cond.methodLink "java/lang/String" 492 ⟨"java/lang/String", "isLatin1", "()Z"⟩ ∈ gTs) mi_SG_isLatin1 ms_SG_isLatin1 (As := []) rfl ⟨Nat.le_of_ble_eq_true rfl, Nat.le_of_ble_eq_true rfl, Nat.le_refl _, Nat.le_refl _⟩ (m_SG_isLatin1 hk) (rest := []) rfl (Nat.le_of_ble_eq_true rfl) dSG_charAt_1 (gk_z (fun r M9 e => ?_))
  obtain ⟨rfl, rfl⟩ := e
  refine g_if_eq X dSG_charAt_4 (fun c => absurd c (by decide)) (fun c => ?_)
  refine g_aload_n X dSG_charAt_7 rfl 0 rfl ?_
  refine g_sval X hK hk (gT0 (gI6 202 rfl) rfl : Cond.fieldLink "java/lang/String" 9 "java/lang/String" "value" "[B" ∈ gTs) dSG_charAt_8 ?_
  refine g_iload_n X dSG_charAt_11 rfl 1 rfl ?_
  refine g_callS X hK gTs_ok mw_SL_charAt (gT0 (gI3 7 rfl) rfl : Cond.methodLink "java/lang/String" 495 ⟨"java/lang/StringLatin1", "charAt", "([BI)C"⟩ ∈ gTs) mt_SL_charAt (As := [.ref (sa (200 + k)), .int i]) rfl ⟨Nat.le_of_ble_eq_true rfl, Nat.le_of_ble_eq_true rfl, Nat.le_refl _, Nat.le_refl _⟩ (m_SL_charAt hk hi) (rest := []) rfl (Nat.le_of_ble_eq_true rfl) dSG_charAt_12 (gk_i (fun r M9 e => ?_))
  obtain ⟨rfl, rfl⟩ := e
  exact g_nret X hr hlk (pk_nc _) dSG_charAt_15 ⟨_, rfl, rfl, rfl⟩
end SG

