set_option maxRecDepth 100000 in
set_option maxHeartbeats 4000000 in
theorem m_WR_gatherNames {l : Launch} {D : va_G} {ta : Nat → ClassId} {base : Nat} {sa : Nat → Nat} {post : gMem → Prop} {M : gMem} (h : wp_WR_gatherNames post M) : GC gLay gCl D ta base gNw sa gTabs gTs l y_WR_gatherNames b_WR_gatherNames 3 none 3 66 [.ref (base + 19)] M (gPv post) := by
  refine GC.of (own := "ObjectFile$Writer") pn_WR rfl (Nat.le_of_ble_eq_true rfl) ?_
  intro p e s m below meth c X hK hr hlk
  have r_9 : ∀ (n : Nat) (v1 : Int32) (M : gMem), wl_WR_gatherNames_9 post n v1 M → GMx D ta base p l e 3 66 s m [.ref (base + 19)] below meth c (gPv post) 3 9 [(0, .ref (base + 19)), (1, .int v1)] [] M := by
    intro n
    induction n with
    | zero => exact fun _ M h => h.elim
    | succ n ih =>
      intro v1 M h
      refine g_iload_n X dWR_gatherNames_9 rfl 1 rfl ?_
      refine g_aload_n X dWR_gatherNames_10 rfl 0 rfl ?_
      refine g_getr X hK.1 fw_WR_47 ly_19 rfl dWR_gatherNames_11 ?_
      refine g_getiN X hK.1 (gNw_of hK) fw_WR_104 ly_1 rfl dWR_gatherNames_14 ?_
      refine g_icmp_ge X dWR_gatherNames_17 (fun c => ?_) (fun c => ?_)
      · have h := h.1 c
        exact g_vret X hr hlk dWR_gatherNames_66 ⟨rfl, h⟩
      · have h := h.2 c
        refine g_aload_n X dWR_gatherNames_20 rfl 0 rfl ?_
        refine g_getr X hK.1 fw_WR_38 ly_19 rfl dWR_gatherNames_21 ?_
        refine g_iload_n X dWR_gatherNames_24 rfl 1 rfl ?_
        obtain ⟨hi, h⟩ := h
        refine g_iald X hK.1 ly_29 hi dWR_gatherNames_25 ?_
        refine g_topi (fun x3 ex3 => ?_)
        have h := h x3 ex3
        refine g_istore_n X (L' := [(2, .int x3), (0, .ref (base + 19)), (1, .int v1)]) dWR_gatherNames_26 rfl (Nat.le_of_ble_eq_true rfl) rfl ?_
        refine g_aload_n X dWR_gatherNames_27 rfl 1 rfl ?_
        refine g_getr X hK.1 fw_WR_44 ly_19 rfl dWR_gatherNames_28 ?_
        refine g_iload_n X dWR_gatherNames_31 rfl 2 rfl ?_
        refine g_aload_n X dWR_gatherNames_32 rfl 1 rfl ?_
        refine g_getr X hK.1 fw_WR_12 ly_19 rfl dWR_gatherNames_33 ?_
        refine g_aload_n X dWR_gatherNames_36 rfl 1 rfl ?_
        refine g_getr X hK.1 fw_WR_47 ly_19 rfl dWR_gatherNames_37 ?_
        refine g_getrN X hK.1 (gNw_of hK) fw_WR_121 ly_1 rfl dWR_gatherNames_40 ?_
        refine g_iload_n X dWR_gatherNames_43 rfl 0 rfl ?_
        refine g_bipush X (v := (16 : Int32)) dWR_gatherNames_44 (by decide) ?_
        refine g_imul X dWR_gatherNames_46 ?_
        refine g_aload_n X dWR_gatherNames_47 rfl 1 rfl ?_
        refine g_getr X hK.1 fw_WR_47 ly_19 rfl dWR_gatherNames_48 ?_
        refine g_iload_n X dWR_gatherNames_51 rfl 0 rfl ?_
        refine g_iconst X (v := (5 : Int32)) dWR_gatherNames_52 (by decide) ?_
        refine g_callVN X hK gTs_ok ly_1 rfl mw_CT_symbolFact nw_406 mi_CT_symbolFact ms_CT_symbolFact (As := [.int x3, .int (5 : Int32)]) rfl ⟨(Nat.le_of_ble_eq_true rfl), (Nat.le_of_ble_eq_true rfl), Nat.le_refl _, Nat.le_refl _⟩ (m_CT_symbolFact_m h) (rest := [.int (x3 * (16 : Int32)), .ref (base + 7), .ref (base + 20), .int v1, .ref (base + 31)]) rfl (Nat.le_of_ble_eq_true rfl) dWR_gatherNames_53 (gk_i (fun r4 M5 h => ?_))
        refine g_callVN X hK gTs_ok ly_20 rfl mw_ST_placeOf nw_419 mi_ST_placeOf ms_ST_placeOf (As := [.ref (base + 7), .int (x3 * (16 : Int32)), .int r4]) rfl ⟨(Nat.le_of_ble_eq_true rfl), (Nat.le_of_ble_eq_true rfl), Nat.le_refl _, Nat.le_refl _⟩ (m_ST_placeOf_n_7 h) (rest := [.int v1, .ref (base + 31)]) rfl (Nat.le_of_ble_eq_true rfl) dWR_gatherNames_56 (gk_i (fun r6 M7 h => ?_))
        obtain ⟨hi, h⟩ := h
        refine g_iast X hK.1 ly_31 hi dWR_gatherNames_59 ?_
        refine g_topM (fun M8 eM8 => ?_)
        have h := h M8 eM8
        obtain ⟨x9, ex9⟩ : ∃ z : Int32, z = v1 + (1 : Int32) := ⟨_, rfl⟩
        have h := h x9 ex9
        refine g_iinc X (L' := [(1, .int x9), (2, .int x3), (0, .ref (base + 19))]) (k := 2) dWR_gatherNames_60 rfl (v := x9) (by rw [ex9]; rfl) (Nat.le_of_ble_eq_true rfl) rfl ?_
        refine g_goto X dWR_gatherNames_63 ?_
        refine g_sub (L' := [(0, .ref (base + 19)), (1, .int x9)]) [2, 0] rfl ?_
        exact ih x9 M8 h
  refine g_args (L' := [(0, .ref (base + 19))]) rfl ?_
  unfold wp_WR_gatherNames at h
  refine g_aload_n X dWR_gatherNames_0 rfl 0 rfl ?_
  refine g_getr X hK.1 fw_WR_12 ly_19 rfl dWR_gatherNames_1 ?_
  refine g_callVN X hK gTs_ok ly_20 rfl mw_ST_restart nw_415 mi_ST_restart ms_ST_restart (As := []) rfl ⟨(Nat.le_of_ble_eq_true rfl), (Nat.le_of_ble_eq_true rfl), Nat.le_refl _, Nat.le_refl _⟩ (m_ST_restart_n h) (rest := []) rfl (Nat.le_of_ble_eq_true rfl) dWR_gatherNames_4 (gk_v (fun M2 h => ?_))
  refine g_iconst X (v := (0 : Int32)) dWR_gatherNames_7 (by decide) ?_
  refine g_istore_n X (L' := [(1, .int (0 : Int32)), (0, .ref (base + 19))]) dWR_gatherNames_8 rfl (Nat.le_of_ble_eq_true rfl) rfl ?_
  refine g_sub (L' := [(0, .ref (base + 19)), (1, .int (0 : Int32))]) [1, 0] rfl ?_
  obtain ⟨n9, h⟩ := h
  exact r_9 n9 (0 : Int32) M2 h
set_option maxRecDepth 100000 in
set_option maxHeartbeats 4000000 in
theorem m_CT_relocationsOf_m {l : Launch} {D : va_G} {ta : Nat → ClassId} {base : Nat} {sa : Nat → Nat} {post : Int32 → gMem → Prop} {a0 : Int32} {M : gMem} (h : wp_CT_relocationsOf_m post a0 M) : GC gLay gCl D ta base gNw sa gTabs gTs l y_CT_relocationsOf b_CT_relocationsOf 4 (some .int) 1 22 [.ref (base + 1), .int a0] M (gPi post) := by
  refine GC.of (own := "ObjectFile$Contents") pn_CT rfl (Nat.le_of_ble_eq_true rfl) ?_
  intro p e s m below meth c X hK hr hlk
  have r_4 : ∀ (n : Nat) (v1 : Int32) (v2 : Int32) (v3 : Int32) (M : gMem), wl_CT_relocationsOf_m_4 post n v1 v2 v3 M → GMx D ta base p l e 1 22 s m [.ref (base + 1), .int a0] below meth c (gPi post) 4 4 [(0, .ref (base + 1)), (1, .int v1), (2, .int v2), (3, .int v3)] [] M := by
    intro n
    induction n with
    | zero => exact fun _ _ _ M h => h.elim
    | succ n ih =>
      intro v1 v2 v3 M h
      refine g_iload_n X dCT_relocationsOf_4 rfl 3 rfl ?_
      refine g_aload_n X dCT_relocationsOf_5 rfl 0 rfl ?_
      refine g_geti X hK.1 fw_CT_47 ly_1 rfl dCT_relocationsOf_6 ?_
      refine g_icmp_ge X dCT_relocationsOf_9 (fun c => ?_) (fun c => ?_)
      · have h := h.1 c
        refine g_iload_n X dCT_relocationsOf_31 rfl 2 rfl ?_
        exact g_iret X hr hlk dCT_relocationsOf_32 ⟨_, rfl, h⟩
      · have h := h.2 c
        refine g_aload_n X dCT_relocationsOf_12 rfl 0 rfl ?_
        refine g_iload_n X dCT_relocationsOf_13 rfl 3 rfl ?_
        refine g_iconst X (v := (0 : Int32)) dCT_relocationsOf_14 (by decide) ?_
        refine g_callV X hK gTs_ok ly_1 rfl mw_CT_relocationFact tw_397 mi_CT_relocationFact ms_CT_relocationFact (As := [.int v3, .int (0 : Int32)]) rfl ⟨(Nat.le_of_ble_eq_true rfl), (Nat.le_of_ble_eq_true rfl), Nat.le_refl _, Nat.le_refl _⟩ (m_CT_relocationFact_m h) (rest := []) rfl (Nat.le_of_ble_eq_true rfl) dCT_relocationsOf_15 (gk_i (fun r1 M2 h => ?_))
        refine g_iload_n X dCT_relocationsOf_18 rfl 1 rfl ?_
        refine g_icmp_ne X dCT_relocationsOf_19 (fun c => ?_) (fun c => ?_)
        · have h := h.1 c
          obtain ⟨x3, ex3⟩ : ∃ z : Int32, z = v3 + (1 : Int32) := ⟨_, rfl⟩
          have h := h x3 ex3
          refine g_iinc X (L' := [(3, .int x3), (0, .ref (base + 1)), (1, .int v1), (2, .int v2)]) (k := 3) dCT_relocationsOf_25 rfl (v := x3) (by rw [ex3]; rfl) (Nat.le_of_ble_eq_true rfl) rfl ?_
          refine g_goto X dCT_relocationsOf_28 ?_
          refine g_sub (L' := [(0, .ref (base + 1)), (1, .int v1), (2, .int v2), (3, .int x3)]) [1, 2, 3, 0] rfl ?_
          exact ih v1 v2 x3 M2 h
        · have h := h.2 c
          obtain ⟨x4, ex4⟩ : ∃ z : Int32, z = v2 + (1 : Int32) := ⟨_, rfl⟩
          have h := h x4 ex4
          refine g_iinc X (L' := [(2, .int x4), (0, .ref (base + 1)), (1, .int v1), (3, .int v3)]) (k := 2) dCT_relocationsOf_22 rfl (v := x4) (by rw [ex4]; rfl) (Nat.le_of_ble_eq_true rfl) rfl ?_
          obtain ⟨x5, ex5⟩ : ∃ z : Int32, z = v3 + (1 : Int32) := ⟨_, rfl⟩
          have h := h x5 ex5
          refine g_iinc X (L' := [(3, .int x5), (2, .int x4), (0, .ref (base + 1)), (1, .int v1)]) (k := 3) dCT_relocationsOf_25 rfl (v := x5) (by rw [ex5]; rfl) (Nat.le_of_ble_eq_true rfl) rfl ?_
          refine g_goto X dCT_relocationsOf_28 ?_
          refine g_sub (L' := [(0, .ref (base + 1)), (1, .int v1), (2, .int x4), (3, .int x5)]) [2, 3, 1, 0] rfl ?_
          exact ih v1 x4 x5 M2 h
  refine g_args (L' := [(0, .ref (base + 1)), (1, .int a0)]) rfl ?_
  unfold wp_CT_relocationsOf_m at h
  refine g_iconst X (v := (0 : Int32)) dCT_relocationsOf_0 (by decide) ?_
  refine g_istore_n X (L' := [(2, .int (0 : Int32)), (0, .ref (base + 1)), (1, .int a0)]) dCT_relocationsOf_1 rfl (Nat.le_of_ble_eq_true rfl) rfl ?_
  refine g_iconst X (v := (0 : Int32)) dCT_relocationsOf_2 (by decide) ?_
  refine g_istore_n X (L' := [(3, .int (0 : Int32)), (2, .int (0 : Int32)), (0, .ref (base + 1)), (1, .int a0)]) dCT_relocationsOf_3 rfl (Nat.le_of_ble_eq_true rfl) rfl ?_
  refine g_sub (L' := [(0, .ref (base + 1)), (1, .int a0), (2, .int (0 : Int32)), (3, .int (0 : Int32))]) [2, 3, 1, 0] rfl ?_
  obtain ⟨n9, h⟩ := h
  exact r_4 n9 a0 (0 : Int32) (0 : Int32) M h
set_option maxRecDepth 100000 in
set_option maxHeartbeats 4000000 in
theorem m_WR_measureParts {l : Launch} {D : va_G} {ta : Nat → ClassId} {base : Nat} {sa : Nat → Nat} {post : gMem → Prop} {M : gMem} (h : wp_WR_measureParts post M) : GC gLay gCl D ta base gNw sa gTabs gTs l y_WR_measureParts b_WR_measureParts 2 none 2 45 [.ref (base + 19)] M (gPv post) := by
  refine GC.of (own := "ObjectFile$Writer") pn_WR rfl (Nat.le_of_ble_eq_true rfl) ?_
  intro p e s m below meth c X hK hr hlk
  have r_45 : ∀ (n : Nat) (v1 : Int32) (M : gMem), wl_WR_measureParts_45 post n v1 M → GMx D ta base p l e 2 45 s m [.ref (base + 19)] below meth c (gPv post) 2 45 [(0, .ref (base + 19)), (1, .int v1)] [] M := by
    intro n
    induction n with
    | zero => exact fun _ M h => h.elim
    | succ n ih =>
      intro v1 M h
      refine g_iload_n X dWR_measureParts_45 rfl 1 rfl ?_
      refine g_iconst X (v := (2 : Int32)) dWR_measureParts_46 (by decide) ?_
      refine g_icmp_gt X dWR_measureParts_47 (fun c => ?_) (fun c => ?_)
      · have h := h.1 c
        refine g_aload_n X dWR_measureParts_75 rfl 0 rfl ?_
        refine g_getr X hK.1 fw_WR_35 ly_19 rfl dWR_measureParts_76 ?_
        refine g_bipush X (v := (8 : Int32)) dWR_measureParts_79 (by decide) ?_
        refine g_bipush X (v := (16 : Int32)) dWR_measureParts_81 (by decide) ?_
        refine g_iconst X (v := (1 : Int32)) dWR_measureParts_83 (by decide) ?_
        refine g_aload_n X dWR_measureParts_84 rfl 0 rfl ?_
        refine g_getr X hK.1 fw_WR_47 ly_19 rfl dWR_measureParts_85 ?_
        refine g_getiN X hK.1 (gNw_of hK) fw_WR_104 ly_1 rfl dWR_measureParts_88 ?_
        refine g_iadd X dWR_measureParts_91 ?_
        refine g_imul X dWR_measureParts_92 ?_
        obtain ⟨hi, h⟩ := h
        refine g_iast X hK.1 ly_28 hi dWR_measureParts_93 ?_
        refine g_topM (fun M2 eM2 => ?_)
        have h := h M2 eM2
        refine g_aload_n X dWR_measureParts_94 rfl 0 rfl ?_
        refine g_getr X hK.1 fw_WR_35 ly_19 rfl dWR_measureParts_95 ?_
        refine g_bipush X (v := (9 : Int32)) dWR_measureParts_98 (by decide) ?_
        refine g_aload_n X dWR_measureParts_100 rfl 0 rfl ?_
        refine g_getr X hK.1 fw_WR_12 ly_19 rfl dWR_measureParts_101 ?_
        refine g_getiN X hK.1 (gNw_of hK) fw_WR_137 ly_20 rfl dWR_measureParts_104 ?_
        obtain ⟨hi, h⟩ := h
        refine g_iast X hK.1 ly_28 hi dWR_measureParts_107 ?_
        refine g_topM (fun M3 eM3 => ?_)
        have h := h M3 eM3
        exact g_vret X hr hlk dWR_measureParts_108 ⟨rfl, h⟩
      · have h := h.2 c
        refine g_aload_n X dWR_measureParts_50 rfl 0 rfl ?_
        refine g_getr X hK.1 fw_WR_35 ly_19 rfl dWR_measureParts_51 ?_
        refine g_iconst X (v := (5 : Int32)) dWR_measureParts_54 (by decide) ?_
        refine g_iload_n X dWR_measureParts_55 rfl 1 rfl ?_
        refine g_iadd X dWR_measureParts_56 ?_
        refine g_bipush X (v := (12 : Int32)) dWR_measureParts_57 (by decide) ?_
        refine g_aload_n X dWR_measureParts_59 rfl 0 rfl ?_
        refine g_getr X hK.1 fw_WR_47 ly_19 rfl dWR_measureParts_60 ?_
        refine g_iload_n X dWR_measureParts_63 rfl 1 rfl ?_
        refine g_callVN X hK gTs_ok ly_1 rfl mw_CT_relocationsOf nw_436 mi_CT_relocationsOf ms_CT_relocationsOf (As := [.int v1]) rfl ⟨(Nat.le_of_ble_eq_true rfl), (Nat.le_of_ble_eq_true rfl), Nat.le_refl _, Nat.le_refl _⟩ (m_CT_relocationsOf_m h) (rest := [.int (12 : Int32), .int ((5 : Int32) + v1), .ref (base + 28)]) rfl (Nat.le_of_ble_eq_true rfl) dWR_measureParts_64 (gk_i (fun r4 M5 h => ?_))
        refine g_imul X dWR_measureParts_67 ?_
        obtain ⟨hi, h⟩ := h
        refine g_iast X hK.1 ly_28 hi dWR_measureParts_68 ?_
        refine g_topM (fun M6 eM6 => ?_)
        have h := h M6 eM6
        obtain ⟨x7, ex7⟩ : ∃ z : Int32, z = v1 + (1 : Int32) := ⟨_, rfl⟩
        have h := h x7 ex7
        refine g_iinc X (L' := [(1, .int x7), (0, .ref (base + 19))]) (k := 1) dWR_measureParts_69 rfl (v := x7) (by rw [ex7]; rfl) (Nat.le_of_ble_eq_true rfl) rfl ?_
        refine g_goto X dWR_measureParts_72 ?_
        refine g_sub (L' := [(0, .ref (base + 19)), (1, .int x7)]) [1, 0] rfl ?_
        exact ih x7 M6 h
  have r_2 : ∀ (n : Nat) (v1 : Int32) (M : gMem), wl_WR_measureParts_2 post n v1 M → GMx D ta base p l e 2 45 s m [.ref (base + 19)] below meth c (gPv post) 2 2 [(0, .ref (base + 19)), (1, .int v1)] [] M := by
    intro n
    induction n with
    | zero => exact fun _ M h => h.elim
    | succ n ih =>
      intro v1 M h
      refine g_iload_n X dWR_measureParts_2 rfl 1 rfl ?_
      refine g_iconst X (v := (3 : Int32)) dWR_measureParts_3 (by decide) ?_
      refine g_icmp_gt X dWR_measureParts_4 (fun c => ?_) (fun c => ?_)
      · have h := h.1 c
        refine g_aload_n X dWR_measureParts_28 rfl 0 rfl ?_
        refine g_getr X hK.1 fw_WR_35 ly_19 rfl dWR_measureParts_29 ?_
        refine g_iconst X (v := (4 : Int32)) dWR_measureParts_32 (by decide) ?_
        refine g_iconst X (v := (2 : Int32)) dWR_measureParts_33 (by decide) ?_
        refine g_aload_n X dWR_measureParts_34 rfl 0 rfl ?_
        refine g_getr X hK.1 fw_WR_47 ly_19 rfl dWR_measureParts_35 ?_
        refine g_getiN X hK.1 (gNw_of hK) fw_WR_130 ly_1 rfl dWR_measureParts_38 ?_
        refine g_imul X dWR_measureParts_41 ?_
        obtain ⟨hi, h⟩ := h
        refine g_iast X hK.1 ly_28 hi dWR_measureParts_42 ?_
        refine g_topM (fun M1 eM1 => ?_)
        have h := h M1 eM1
        refine g_iconst X (v := (0 : Int32)) dWR_measureParts_43 (by decide) ?_
        refine g_istore_n X (L' := [(1, .int (0 : Int32)), (0, .ref (base + 19))]) dWR_measureParts_44 rfl (Nat.le_of_ble_eq_true rfl) rfl ?_
        refine g_sub (L' := [(0, .ref (base + 19)), (1, .int (0 : Int32))]) [1, 0] rfl ?_
        obtain ⟨n9, h⟩ := h
        exact r_45 n9 (0 : Int32) M1 h
      · have h := h.2 c
        refine g_aload_n X dWR_measureParts_7 rfl 0 rfl ?_
        refine g_getr X hK.1 fw_WR_35 ly_19 rfl dWR_measureParts_8 ?_
        refine g_iload_n X dWR_measureParts_11 rfl 1 rfl ?_
        refine g_aload_n X dWR_measureParts_12 rfl 0 rfl ?_
        refine g_getr X hK.1 fw_WR_47 ly_19 rfl dWR_measureParts_13 ?_
        refine g_getrN X hK.1 (gNw_of hK) fw_WR_127 ly_1 rfl dWR_measureParts_16 ?_
        refine g_iload_n X dWR_measureParts_19 rfl 1 rfl ?_
        obtain ⟨hi, h⟩ := h
        refine g_iald X hK.1 ly_3 hi dWR_measureParts_20 ?_
        obtain ⟨hi, h⟩ := h
        refine g_iast X hK.1 ly_28 hi dWR_measureParts_21 ?_
        refine g_topM (fun M8 eM8 => ?_)
        have h := h M8 eM8
        obtain ⟨x9, ex9⟩ : ∃ z : Int32, z = v1 + (1 : Int32) := ⟨_, rfl⟩
        have h := h x9 ex9
        refine g_iinc X (L' := [(1, .int x9), (0, .ref (base + 19))]) (k := 1) dWR_measureParts_22 rfl (v := x9) (by rw [ex9]; rfl) (Nat.le_of_ble_eq_true rfl) rfl ?_
        refine g_goto X dWR_measureParts_25 ?_
        refine g_sub (L' := [(0, .ref (base + 19)), (1, .int x9)]) [1, 0] rfl ?_
        exact ih x9 M8 h
  refine g_args (L' := [(0, .ref (base + 19))]) rfl ?_
  unfold wp_WR_measureParts at h
  refine g_iconst X (v := (0 : Int32)) dWR_measureParts_0 (by decide) ?_
  refine g_istore_n X (L' := [(1, .int (0 : Int32)), (0, .ref (base + 19))]) dWR_measureParts_1 rfl (Nat.le_of_ble_eq_true rfl) rfl ?_
  refine g_sub (L' := [(0, .ref (base + 19)), (1, .int (0 : Int32))]) [1, 0] rfl ?_
  obtain ⟨n9, h⟩ := h
  exact r_2 n9 (0 : Int32) M h
set_option maxRecDepth 100000 in
set_option maxHeartbeats 4000000 in
theorem m_ST_restart_l {l : Launch} {D : va_G} {ta : Nat → ClassId} {base : Nat} {sa : Nat → Nat} {post : gMem → Prop} {M : gMem} (h : wp_ST_restart_l post M) : GC gLay gCl D ta base gNw sa gTabs gTs l y_ST_restart b_ST_restart 1 none 0 0 [.ref (base + 22)] M (gPv post) := by
  refine GC.of (own := "ObjectFile$Strings") pn_ST rfl (Nat.le_of_ble_eq_true rfl) ?_
  intro p e s m below meth c X hK hr hlk
  refine g_args (L' := [(0, .ref (base + 22))]) rfl ?_
  unfold wp_ST_restart_l at h
  refine g_aload_n X dST_restart_0 rfl 0 rfl ?_
  refine g_getr X hK.1 fw_ST_9 ly_22 rfl dST_restart_1 ?_
  refine g_iconst X (v := (0 : Int32)) dST_restart_4 (by decide) ?_
  refine g_iconst X (v := (0 : Int32)) dST_restart_5 (by decide) ?_
  obtain ⟨hi, h⟩ := h
  refine g_bast X hK.1 ly_23 hi dST_restart_6 ?_
  refine g_topM (fun M1 eM1 => ?_)
  have h := h M1 eM1
  refine g_aload_n X dST_restart_7 rfl 0 rfl ?_
  refine g_iconst X (v := (1 : Int32)) dST_restart_8 (by decide) ?_
  refine g_puti X hK.1 fw_ST_15 pw_ST_1 ly_22 rfl dST_restart_9 ?_
  refine g_topM (fun M2 eM2 => ?_)
  have h := h M2 eM2
  exact g_vret X hr hlk dST_restart_12 ⟨rfl, h⟩
set_option maxRecDepth 100000 in
set_option maxHeartbeats 4000000 in
theorem m_WR_isThere {l : Launch} {D : va_G} {ta : Nat → ClassId} {base : Nat} {sa : Nat → Nat} {post : Bool → gMem → Prop} {a0 : Int32} {M : gMem} (h : wp_WR_isThere post a0 M) : GC gLay gCl D ta base gNw sa gTabs gTs l y_WR_isThere b_WR_isThere 2 (some .boolean) 0 0 [.ref (base + 19), .int a0] M (gPz post) := by
  refine GC.of (own := "ObjectFile$Writer") pn_WR rfl (Nat.le_of_ble_eq_true rfl) ?_
  intro p e s m below meth c X hK hr hlk
  refine g_args (L' := [(0, .ref (base + 19)), (1, .int a0)]) rfl ?_
  unfold wp_WR_isThere at h
  refine g_iload_n X dWR_isThere_0 rfl 1 rfl ?_
  refine g_iconst X (v := (3 : Int32)) dWR_isThere_1 (by decide) ?_
  refine g_icmp_le X dWR_isThere_2 (fun c => ?_) (fun c => ?_)
  · have h := h.1 c
    refine g_iconst X (v := (1 : Int32)) dWR_isThere_20 (by decide) ?_
    refine g_goto X dWR_isThere_21 ?_
    exact g_zret X hr hlk (by decide) dWR_isThere_25 ⟨true, rfl, h⟩
  · have h := h.2 c
    refine g_iload_n X dWR_isThere_5 rfl 1 rfl ?_
    refine g_bipush X (v := (8 : Int32)) dWR_isThere_6 (by decide) ?_
    refine g_icmp_ge X dWR_isThere_8 (fun c => ?_) (fun c => ?_)
    · have h := h.1 c
      refine g_iconst X (v := (1 : Int32)) dWR_isThere_20 (by decide) ?_
      refine g_goto X dWR_isThere_21 ?_
      exact g_zret X hr hlk (by decide) dWR_isThere_25 ⟨true, rfl, h⟩
    · have h := h.2 c
      refine g_aload_n X dWR_isThere_11 rfl 0 rfl ?_
      refine g_getr X hK.1 fw_WR_35 ly_19 rfl dWR_isThere_12 ?_
      refine g_iload_n X dWR_isThere_15 rfl 1 rfl ?_
      obtain ⟨hi, h⟩ := h
      refine g_iald X hK.1 ly_28 hi dWR_isThere_16 ?_
      refine g_if_le X dWR_isThere_17 (fun c => ?_) (fun c => ?_)
      · have h := h.1 c
        refine g_iconst X (v := (0 : Int32)) dWR_isThere_24 (by decide) ?_
        exact g_zret X hr hlk (by decide) dWR_isThere_25 ⟨false, rfl, h⟩
      · have h := h.2 c
        refine g_iconst X (v := (1 : Int32)) dWR_isThere_20 (by decide) ?_
        refine g_goto X dWR_isThere_21 ?_
        exact g_zret X hr hlk (by decide) dWR_isThere_25 ⟨true, rfl, h⟩
set_option maxRecDepth 100000 in
set_option maxHeartbeats 4000000 in
theorem m_OF_labelOf {l : Launch} {D : va_G} {ta : Nat → ClassId} {base : Nat} {sa : Nat → Nat} {post : Nat → gMem → Prop} {a0 : Int32} {M : gMem} (h : wp_OF_labelOf post a0 M) : GC gLay gCl D ta base gNw sa gTabs gTs l y_OF_labelOf b_OF_labelOf 1 (some (.object "java/lang/String")) 0 0 [.int a0] M (gPs sa post) := by
  refine GC.of (own := "ObjectFile") pn_OF rfl (Nat.le_of_ble_eq_true rfl) ?_
  intro p e s m below meth c X hK hr hlk
  refine g_args (L' := [(0, .int a0)]) rfl ?_
  unfold wp_OF_labelOf at h
  refine g_iload_n X dOF_labelOf_0 rfl 0 rfl ?_
  refine g_table X (dt := 86) [((0 : Int32), 56), ((1 : Int32), 59), ((2 : Int32), 62), ((3 : Int32), 65), ((4 : Int32), 68), ((5 : Int32), 71), ((6 : Int32), 74), ((7 : Int32), 77), ((8 : Int32), 80), ((9 : Int32), 83)] dOF_labelOf_1.1 (by decide +kernel) (by decide) (by decide) ?_
  refine gSw_cons (fun c => ?_) (fun c => ?_)
  · have h := h.1 c
    refine g_ldcs X hK (k := 0) rfl dOF_labelOf_56 ?_
    exact g_sret X hr hlk dOF_labelOf_58 ⟨_, rfl, h⟩
  · have h := h.2 c
    refine gSw_cons (fun c => ?_) (fun c => ?_)
    · have h := h.1 c
      refine g_ldcs X hK (k := 1) rfl dOF_labelOf_59 ?_
      exact g_sret X hr hlk dOF_labelOf_61 ⟨_, rfl, h⟩
    · have h := h.2 c
      refine gSw_cons (fun c => ?_) (fun c => ?_)
      · have h := h.1 c
        refine g_ldcs X hK (k := 2) rfl dOF_labelOf_62 ?_
        exact g_sret X hr hlk dOF_labelOf_64 ⟨_, rfl, h⟩
      · have h := h.2 c
        refine gSw_cons (fun c => ?_) (fun c => ?_)
        · have h := h.1 c
          refine g_ldcs X hK (k := 3) rfl dOF_labelOf_65 ?_
          exact g_sret X hr hlk dOF_labelOf_67 ⟨_, rfl, h⟩
        · have h := h.2 c
          refine gSw_cons (fun c => ?_) (fun c => ?_)
          · have h := h.1 c
            refine g_ldcs X hK (k := 4) rfl dOF_labelOf_68 ?_
            exact g_sret X hr hlk dOF_labelOf_70 ⟨_, rfl, h⟩
          · have h := h.2 c
            refine gSw_cons (fun c => ?_) (fun c => ?_)
            · have h := h.1 c
              refine g_ldcs X hK (k := 5) rfl dOF_labelOf_71 ?_
              exact g_sret X hr hlk dOF_labelOf_73 ⟨_, rfl, h⟩
            · have h := h.2 c
              refine gSw_cons (fun c => ?_) (fun c => ?_)
              · have h := h.1 c
                refine g_ldcs X hK (k := 6) rfl dOF_labelOf_74 ?_
                exact g_sret X hr hlk dOF_labelOf_76 ⟨_, rfl, h⟩
              · have h := h.2 c
                refine gSw_cons (fun c => ?_) (fun c => ?_)
                · have h := h.1 c
                  refine g_ldcs X hK (k := 7) rfl dOF_labelOf_77 ?_
                  exact g_sret X hr hlk dOF_labelOf_79 ⟨_, rfl, h⟩
                · have h := h.2 c
                  refine gSw_cons (fun c => ?_) (fun c => ?_)
                  · have h := h.1 c
                    refine g_ldcs X hK (k := 8) rfl dOF_labelOf_80 ?_
                    exact g_sret X hr hlk dOF_labelOf_82 ⟨_, rfl, h⟩
                  · have h := h.2 c
                    refine gSw_cons (fun c => ?_) (fun c => ?_)
                    · have h := h.1 c
                      refine g_ldcs X hK (k := 9) rfl dOF_labelOf_83 ?_
                      exact g_sret X hr hlk dOF_labelOf_85 ⟨_, rfl, h⟩
                    · have h := h.2 c
                      refine gSw_nil ?_
                      refine g_ldcs X hK (k := 10) rfl dOF_labelOf_86 ?_
                      exact g_sret X hr hlk dOF_labelOf_88 ⟨_, rfl, h⟩
set_option maxRecDepth 100000 in
set_option maxHeartbeats 4000000 in
theorem m_WR_spell {l : Launch} {D : va_G} {ta : Nat → ClassId} {base : Nat} {sa : Nat → Nat} {post : Int32 → gMem → Prop} {a0 : Int32} {M : gMem} (h : wp_WR_spell post a0 M) : GC gLay gCl D ta base gNw sa gTabs gTs l y_WR_spell b_WR_spell 5 (some .int) 4 85 [.ref (base + 19), .int a0] M (gPi post) := by
  refine GC.of (own := "ObjectFile$Writer") pn_WR rfl (Nat.le_of_ble_eq_true rfl) ?_
  intro p e s m below meth c X hK hr hlk
  have r_18 : ∀ (n : Nat) (v2 : Nat) (v3 : Int32) (v4 : Int32) (M : gMem), wl_WR_spell_18 post n v2 v3 v4 M → GMx D ta base p l e 4 85 s m [.ref (base + 19), .int a0] below meth c (gPi post) 5 18 [(0, .ref (base + 19)), (2, .ref (sa (100 + v2))), (3, .int v3), (4, .int v4)] [] M := by
    intro n
    induction n with
    | zero => exact fun _ _ _ M h => h.elim
    | succ n ih =>
      intro v2 v3 v4 M h
      refine g_iload X dWR_spell_18 3 rfl ?_
      refine g_iload_n X dWR_spell_20 rfl 2 rfl ?_
      refine g_icmp_ge X dWR_spell_21 (fun c => ?_) (fun c => ?_)
      · have h := h.1 c
        refine g_iload_n X dWR_spell_44 rfl 2 rfl ?_
        exact g_iret X hr hlk dWR_spell_45 ⟨_, rfl, h⟩
      · have h := h.2 c
        refine g_aload_n X dWR_spell_24 rfl 0 rfl ?_
        refine g_getr X hK.1 fw_WR_21 ly_19 rfl dWR_spell_25 ?_
        refine g_iload X dWR_spell_28 3 rfl ?_
        refine g_aload_n X dWR_spell_30 rfl 1 rfl ?_
        refine g_iload X dWR_spell_31 3 rfl ?_
        obtain ⟨hi, hj, h⟩ := h
        refine g_callK X hK gTs_ok hi mw_SG_charAt tw_479 mi_SG_charAt ms_SG_charAt (As := [.int v4]) rfl ⟨(Nat.le_of_ble_eq_true rfl), (Nat.le_of_ble_eq_true rfl), Nat.le_refl _, Nat.le_refl _⟩ (m_SG_charAt hi hj) (rest := [.int v4, .ref (base + 24)]) rfl (Nat.le_of_ble_eq_true rfl) dWR_spell_33 (gk_i (fun r M9 e => ?_))
        obtain ⟨rfl, e⟩ := e
        rw [e]
        refine g_i2b X dWR_spell_36 rfl ?_
        obtain ⟨hi, h⟩ := h
        refine g_bast X hK.1 ly_24 hi dWR_spell_37 ?_
        refine g_topM (fun M4 eM4 => ?_)
        have h := h M4 eM4
        obtain ⟨x5, ex5⟩ : ∃ z : Int32, z = v4 + (1 : Int32) := ⟨_, rfl⟩
        have h := h x5 ex5
        refine g_iinc X (L' := [(4, .int x5), (0, .ref (base + 19)), (2, .ref (sa (100 + v2))), (3, .int v3)]) (k := 3) dWR_spell_38 rfl (v := x5) (by rw [ex5]; rfl) (Nat.le_of_ble_eq_true rfl) rfl ?_
        refine g_goto X dWR_spell_41 ?_
        refine g_sub (L' := [(0, .ref (base + 19)), (2, .ref (sa (100 + v2))), (3, .int v3), (4, .int x5)]) [1, 2, 3, 0] rfl ?_
        exact ih v2 v3 x5 M4 h
  refine g_args (L' := [(0, .ref (base + 19)), (1, .int a0)]) rfl ?_
  unfold wp_WR_spell at h
  refine g_iload_n X dWR_spell_0 rfl 1 rfl ?_
  refine g_callSN X hK gTs_ok mw_OF_labelOf nw_452 mt_OF_labelOf (As := [.int a0]) rfl ⟨(Nat.le_of_ble_eq_true rfl), (Nat.le_of_ble_eq_true rfl), Nat.le_refl _, Nat.le_refl _⟩ (m_OF_labelOf h) (rest := []) rfl (Nat.le_of_ble_eq_true rfl) dWR_spell_1 (gk_s (fun r1 M2 h => ?_))
  refine g_astore_n X (L' := [(2, .ref (sa (100 + r1))), (0, .ref (base + 19)), (1, .int a0)]) dWR_spell_4 rfl (Nat.le_of_ble_eq_true rfl) rfl ?_
  refine g_aload_n X dWR_spell_5 rfl 0 rfl ?_
  obtain ⟨hi, h⟩ := h
  refine g_callK X hK gTs_ok hi mw_SG_length tw_466 mi_SG_length ms_SG_length (As := []) rfl ⟨(Nat.le_of_ble_eq_true rfl), (Nat.le_of_ble_eq_true rfl), Nat.le_refl _, Nat.le_refl _⟩ (m_SG_length hi) (rest := []) rfl (Nat.le_of_ble_eq_true rfl) dWR_spell_6 (gk_i (fun r M9 e => ?_))
  obtain ⟨rfl, e⟩ := e
  rw [e]
  refine g_bipush X (v := (16 : Int32)) dWR_spell_9 (by decide) ?_
  refine g_mmin X tw_476 tw_477 tw_13 wmn_c ⟨(Nat.le_of_ble_eq_true rfl), Nat.le_refl _, Nat.le_refl _⟩ (Nat.le_of_ble_eq_true rfl) dWR_spell_11 ?_
  refine g_topi (fun x3 ex3 => ?_)
  have h := h x3 ex3
  refine g_istore_n X (L' := [(3, .int x3), (2, .ref (sa (100 + r1))), (0, .ref (base + 19)), (1, .int a0)]) dWR_spell_14 rfl (Nat.le_of_ble_eq_true rfl) rfl ?_
  refine g_iconst X (v := (0 : Int32)) dWR_spell_15 (by decide) ?_
  refine g_istore X (L' := [(4, .int (0 : Int32)), (3, .int x3), (2, .ref (sa (100 + r1))), (0, .ref (base + 19)), (1, .int a0)]) dWR_spell_16 (Nat.le_of_ble_eq_true rfl) rfl ?_
  refine g_sub (L' := [(0, .ref (base + 19)), (2, .ref (sa (100 + r1))), (3, .int x3), (4, .int (0 : Int32))]) [3, 2, 1, 0] rfl ?_
  obtain ⟨n9, h⟩ := h
  exact r_18 n9 r1 x3 (0 : Int32) M2 h
set_option maxRecDepth 100000 in
set_option maxHeartbeats 4000000 in
theorem m_ST_putBehind_l_24 {l : Launch} {D : va_G} {ta : Nat → ClassId} {base : Nat} {sa : Nat → Nat} {post : Int32 → gMem → Prop} {a1 : Int32} {a2 : Int32} {M : gMem} (h : wp_ST_putBehind_l_24 post a1 a2 M) : GC gLay gCl D ta base gNw sa gTabs gTs l y_ST_putBehind b_ST_putBehind 5 (some .int) 1 18 [.ref (base + 22), .ref (base + 24), .int a1, .int a2] M (gPi post) := by
  refine GC.of (own := "ObjectFile$Strings") pn_ST rfl (Nat.le_of_ble_eq_true rfl) ?_
  intro p e s m below meth c X hK hr hlk
  refine g_args (L' := [(0, .ref (base + 22)), (1, .ref (base + 24)), (2, .int a1), (3, .int a2)]) rfl ?_
  unfold wp_ST_putBehind_l_24 at h
  refine g_aload_n X dST_putBehind_0 rfl 0 rfl ?_
  refine g_geti X hK.1 fw_ST_15 ly_22 rfl dST_putBehind_1 ?_
  refine g_iload_n X dST_putBehind_4 rfl 3 rfl ?_
  refine g_iadd X dST_putBehind_5 ?_
  refine g_iconst X (v := (1 : Int32)) dST_putBehind_6 (by decide) ?_
  refine g_iadd X dST_putBehind_7 ?_
  refine g_sipush X (v := (1701 : Int32)) dST_putBehind_8 (by decide) ?_
  refine g_icmp_le X dST_putBehind_11 (fun c => ?_) (fun c => ?_)
  · have h := h.1 c
    refine g_aload_n X dST_putBehind_16 rfl 0 rfl ?_
    refine g_geti X hK.1 fw_ST_15 ly_22 rfl dST_putBehind_17 ?_
    refine g_topi (fun x1 ex1 => ?_)
    have h := h x1 ex1
    refine g_istore X (L' := [(4, .int x1), (0, .ref (base + 22)), (1, .ref (base + 24)), (2, .int a1), (3, .int a2)]) dST_putBehind_20 (Nat.le_of_ble_eq_true rfl) rfl ?_
    refine g_aload_n X dST_putBehind_22 rfl 2 rfl ?_
    refine g_iload_n X dST_putBehind_23 rfl 3 rfl ?_
    refine g_aload_n X dST_putBehind_24 rfl 1 rfl ?_
    refine g_getr X hK.1 fw_ST_9 ly_22 rfl dST_putBehind_25 ?_
    refine g_iload X dST_putBehind_28 0 rfl ?_
    refine g_iload_n X dST_putBehind_30 rfl 4 rfl ?_
    obtain ⟨q1, q2, q3, q4, q5, q6, h⟩ := h
    refine g_copyb X hK.1 tw_431 tw_351 tw_350 tw_11 ly_24 ly_23 q1 q2 q3 q4 q5 q6 (Nat.le_of_ble_eq_true rfl) (Nat.le_of_ble_eq_true rfl) dST_putBehind_31 ?_
    refine g_topM (fun M2 eM2 => ?_)
    have h := h M2 eM2
    refine g_aload_n X dST_putBehind_34 rfl 1 rfl ?_
    refine g_getr X hK.1 fw_ST_9 ly_22 rfl dST_putBehind_35 ?_
    refine g_iload X dST_putBehind_38 0 rfl ?_
    refine g_iload_n X dST_putBehind_40 rfl 4 rfl ?_
    refine g_iadd X dST_putBehind_41 ?_
    refine g_iconst X (v := (0 : Int32)) dST_putBehind_42 (by decide) ?_
    obtain ⟨hi, h⟩ := h
    refine g_bast X hK.1 ly_23 hi dST_putBehind_43 ?_
    refine g_topM (fun M3 eM3 => ?_)
    have h := h M3 eM3
    refine g_aload_n X dST_putBehind_44 rfl 1 rfl ?_
    refine g_iload X dST_putBehind_45 0 rfl ?_
    refine g_iload_n X dST_putBehind_47 rfl 4 rfl ?_
    refine g_iadd X dST_putBehind_48 ?_
    refine g_iconst X (v := (1 : Int32)) dST_putBehind_49 (by decide) ?_
    refine g_iadd X dST_putBehind_50 ?_
    refine g_puti X hK.1 fw_ST_15 pw_ST_1 ly_22 rfl dST_putBehind_51 ?_
    refine g_topM (fun M4 eM4 => ?_)
    have h := h M4 eM4
    refine g_iload X dST_putBehind_54 0 rfl ?_
    exact g_iret X hr hlk dST_putBehind_56 ⟨_, rfl, h⟩
  · have h := h.2 c
    refine g_iconst X (v := (0 : Int32)) dST_putBehind_14 (by decide) ?_
    exact g_iret X hr hlk dST_putBehind_15 ⟨_, rfl, h⟩
set_option maxRecDepth 100000 in
set_option maxHeartbeats 4000000 in
theorem m_ST_standsAt_l_24 {l : Launch} {D : va_G} {ta : Nat → ClassId} {base : Nat} {sa : Nat → Nat} {post : Bool → gMem → Prop} {a0 : Int32} {a2 : Int32} {a3 : Int32} {M : gMem} (h : wp_ST_standsAt_l_24 post a0 a2 a3 M) : GC gLay gCl D ta base gNw sa gTabs gTs l y_ST_standsAt b_ST_standsAt 6 (some .boolean) 0 0 [.ref (base + 22), .int a0, .ref (base + 24), .int a2, .int a3] M (gPz post) := by
  refine GC.of (own := "ObjectFile$Strings") pn_ST rfl (Nat.le_of_ble_eq_true rfl) ?_
  intro p e s m below meth c X hK hr hlk
  have r_3 : ∀ (n : Nat) (v1 : Int32) (v3 : Int32) (v4 : Int32) (v5 : Int32) (M : gMem), wl_ST_standsAt_l_24_3 post n v1 v3 v4 v5 M → GMx D ta base p l e 0 0 s m [.ref (base + 22), .int a0, .ref (base + 24), .int a2, .int a3] below meth c (gPz post) 6 3 [(0, .ref (base + 22)), (1, .int v1), (2, .ref (base + 24)), (3, .int v3), (4, .int v4), (5, .int v5)] [] M := by
    intro n
    induction n with
    | zero => exact fun _ _ _ _ M h => h.elim
    | succ n ih =>
      intro v1 v3 v4 v5 M h
      refine g_iload X dST_standsAt_3 5 rfl ?_
      refine g_iload X dST_standsAt_5 4 rfl ?_
      refine g_icmp_ge X dST_standsAt_7 (fun c => ?_) (fun c => ?_)
      · have h := h.1 c
        refine g_iconst X (v := (1 : Int32)) dST_standsAt_36 (by decide) ?_
        exact g_zret X hr hlk (by decide) dST_standsAt_37 ⟨true, rfl, h⟩
      · have h := h.2 c
        refine g_aload_n X dST_standsAt_10 rfl 0 rfl ?_
        refine g_getr X hK.1 fw_ST_9 ly_22 rfl dST_standsAt_11 ?_
        refine g_iload_n X dST_standsAt_14 rfl 1 rfl ?_
        refine g_iload X dST_standsAt_15 5 rfl ?_
        refine g_iadd X dST_standsAt_17 ?_
        obtain ⟨hi, h⟩ := h
        refine g_bald X hK.1 ly_23 hi dST_standsAt_18 ?_
        refine g_aload_n X dST_standsAt_19 rfl 2 rfl ?_
        refine g_iload_n X dST_standsAt_20 rfl 3 rfl ?_
        refine g_iload X dST_standsAt_21 5 rfl ?_
        refine g_iadd X dST_standsAt_23 ?_
        obtain ⟨hi, h⟩ := h
        refine g_bald X hK.1 ly_24 hi dST_standsAt_24 ?_
        refine g_icmp_eq X dST_standsAt_25 (fun c => ?_) (fun c => ?_)
        · have h := h.1 c
          obtain ⟨x1, ex1⟩ : ∃ z : Int32, z = v5 + (1 : Int32) := ⟨_, rfl⟩
          have h := h x1 ex1
          refine g_iinc X (L' := [(5, .int x1), (0, .ref (base + 22)), (1, .int v1), (2, .ref (base + 24)), (3, .int v3), (4, .int v4)]) (k := 5) dST_standsAt_30 rfl (v := x1) (by rw [ex1]; rfl) (Nat.le_of_ble_eq_true rfl) rfl ?_
          refine g_goto X dST_standsAt_33 ?_
          refine g_sub (L' := [(0, .ref (base + 22)), (1, .int v1), (2, .ref (base + 24)), (3, .int v3), (4, .int v4), (5, .int x1)]) [1, 2, 3, 4, 5, 0] rfl ?_
          exact ih v1 v3 v4 x1 M h
        · have h := h.2 c
          refine g_iconst X (v := (0 : Int32)) dST_standsAt_28 (by decide) ?_
          exact g_zret X hr hlk (by decide) dST_standsAt_29 ⟨false, rfl, h⟩
  refine g_args (L' := [(0, .ref (base + 22)), (1, .int a0), (2, .ref (base + 24)), (3, .int a2), (4, .int a3)]) rfl ?_
  unfold wp_ST_standsAt_l_24 at h
  refine g_iconst X (v := (0 : Int32)) dST_standsAt_0 (by decide) ?_
  refine g_istore X (L' := [(5, .int (0 : Int32)), (0, .ref (base + 22)), (1, .int a0), (2, .ref (base + 24)), (3, .int a2), (4, .int a3)]) dST_standsAt_1 (Nat.le_of_ble_eq_true rfl) rfl ?_
  refine g_sub (L' := [(0, .ref (base + 22)), (1, .int a0), (2, .ref (base + 24)), (3, .int a2), (4, .int a3), (5, .int (0 : Int32))]) [1, 2, 3, 4, 5, 0] rfl ?_
  obtain ⟨n9, h⟩ := h
  exact r_3 n9 a0 a2 a3 (0 : Int32) M h
set_option maxRecDepth 100000 in
set_option maxHeartbeats 4000000 in
theorem m_ST_placeOf_l_24 {l : Launch} {D : va_G} {ta : Nat → ClassId} {base : Nat} {sa : Nat → Nat} {post : Int32 → gMem → Prop} {a1 : Int32} {a2 : Int32} {M : gMem} (h : wp_ST_placeOf_l_24 post a1 a2 M) : GC gLay gCl D ta base gNw sa gTabs gTs l y_ST_placeOf b_ST_placeOf 5 (some .int) 2 42 [.ref (base + 22), .ref (base + 24), .int a1, .int a2] M (gPi post) := by
  refine GC.of (own := "ObjectFile$Strings") pn_ST rfl (Nat.le_of_ble_eq_true rfl) ?_
  intro p e s m below meth c X hK hr hlk
  have r_22 : ∀ (n : Nat) (v2 : Int32) (v3 : Int32) (v4 : Int32) (M : gMem), wl_ST_placeOf_l_24_22 post n v2 v3 v4 M → GMx D ta base p l e 2 42 s m [.ref (base + 22), .ref (base + 24), .int a1, .int a2] below meth c (gPi post) 5 22 [(0, .ref (base + 22)), (1, .ref (base + 24)), (2, .int v2), (3, .int v3), (4, .int v4)] [] M := by
    intro n
    induction n with
    | zero => exact fun _ _ _ M h => h.elim
    | succ n ih =>
      intro v2 v3 v4 M h
      refine g_iload X dST_placeOf_22 4 rfl ?_
      refine g_aload_n X dST_placeOf_24 rfl 0 rfl ?_
      refine g_geti X hK.1 fw_ST_15 ly_22 rfl dST_placeOf_25 ?_
      refine g_iload_n X dST_placeOf_28 rfl 3 rfl ?_
      refine g_isub X dST_placeOf_29 ?_
      refine g_icmp_ge X dST_placeOf_30 (fun c => ?_) (fun c => ?_)
      · have h := h.1 c
        refine g_aload_n X dST_placeOf_66 rfl 0 rfl ?_
        refine g_aload_n X dST_placeOf_67 rfl 1 rfl ?_
        refine g_iload_n X dST_placeOf_68 rfl 2 rfl ?_
        refine g_iload_n X dST_placeOf_69 rfl 3 rfl ?_
        refine g_callV X hK gTs_ok ly_22 rfl mw_ST_putBehind tw_427 mi_ST_putBehind ms_ST_putBehind (As := [.ref (base + 24), .int v2, .int v3]) rfl ⟨(Nat.le_of_ble_eq_true rfl), (Nat.le_of_ble_eq_true rfl), Nat.le_refl _, Nat.le_refl _⟩ (m_ST_putBehind_l_24 h) (rest := []) rfl (Nat.le_of_ble_eq_true rfl) dST_placeOf_70 (gk_i (fun r1 M2 h => ?_))
        exact g_iret X hr hlk dST_placeOf_73 ⟨_, rfl, h⟩
      · have h := h.2 c
        refine g_aload_n X dST_placeOf_33 rfl 0 rfl ?_
        refine g_getr X hK.1 fw_ST_9 ly_22 rfl dST_placeOf_34 ?_
        refine g_iload X dST_placeOf_37 4 rfl ?_
        refine g_iload_n X dST_placeOf_39 rfl 3 rfl ?_
        refine g_iadd X dST_placeOf_40 ?_
        obtain ⟨hi, h⟩ := h
        refine g_bald X hK.1 ly_23 hi dST_placeOf_41 ?_
        refine g_if_ne X dST_placeOf_42 (fun c => ?_) (fun c => ?_)
        · have h := h.1 c
          obtain ⟨x3, ex3⟩ : ∃ z : Int32, z = v4 + (1 : Int32) := ⟨_, rfl⟩
          have h := h x3 ex3
          refine g_iinc X (L' := [(4, .int x3), (0, .ref (base + 22)), (1, .ref (base + 24)), (2, .int v2), (3, .int v3)]) (k := 4) dST_placeOf_60 rfl (v := x3) (by rw [ex3]; rfl) (Nat.le_of_ble_eq_true rfl) rfl ?_
          refine g_goto X dST_placeOf_63 ?_
          refine g_sub (L' := [(0, .ref (base + 22)), (1, .ref (base + 24)), (2, .int v2), (3, .int v3), (4, .int x3)]) [1, 2, 3, 4, 0] rfl ?_
          exact ih v2 v3 x3 M h
        · have h := h.2 c
          refine g_aload_n X dST_placeOf_45 rfl 0 rfl ?_
          refine g_iload X dST_placeOf_46 4 rfl ?_
          refine g_aload_n X dST_placeOf_48 rfl 1 rfl ?_
          refine g_iload_n X dST_placeOf_49 rfl 2 rfl ?_
          refine g_iload_n X dST_placeOf_50 rfl 3 rfl ?_
          refine g_callV X hK gTs_ok ly_22 rfl mw_ST_standsAt tw_423 mi_ST_standsAt ms_ST_standsAt (As := [.int v4, .ref (base + 24), .int v2, .int v3]) rfl ⟨(Nat.le_of_ble_eq_true rfl), (Nat.le_of_ble_eq_true rfl), Nat.le_refl _, Nat.le_refl _⟩ (m_ST_standsAt_l_24 h) (rest := []) rfl (Nat.le_of_ble_eq_true rfl) dST_placeOf_51 (gk_z (fun r4 M5 h => ?_))
          refine g_if_eq X dST_placeOf_54 (fun c => ?_) (fun c => ?_)
          · have h := h.1 c
            obtain ⟨x6, ex6⟩ : ∃ z : Int32, z = v4 + (1 : Int32) := ⟨_, rfl⟩
            have h := h x6 ex6
            refine g_iinc X (L' := [(4, .int x6), (0, .ref (base + 22)), (1, .ref (base + 24)), (2, .int v2), (3, .int v3)]) (k := 4) dST_placeOf_60 rfl (v := x6) (by rw [ex6]; rfl) (Nat.le_of_ble_eq_true rfl) rfl ?_
            refine g_goto X dST_placeOf_63 ?_
            refine g_sub (L' := [(0, .ref (base + 22)), (1, .ref (base + 24)), (2, .int v2), (3, .int v3), (4, .int x6)]) [1, 2, 3, 4, 0] rfl ?_
            exact ih v2 v3 x6 M5 h
          · have h := h.2 c
            refine g_iload X dST_placeOf_57 4 rfl ?_
            exact g_iret X hr hlk dST_placeOf_59 ⟨_, rfl, h⟩
  refine g_args (L' := [(0, .ref (base + 22)), (1, .ref (base + 24)), (2, .int a1), (3, .int a2)]) rfl ?_
  unfold wp_ST_placeOf_l_24 at h
  refine g_iload_n X dST_placeOf_0 rfl 3 rfl ?_
  refine g_iconst X (v := (1 : Int32)) dST_placeOf_1 (by decide) ?_
  refine g_icmp_lt X dST_placeOf_2 (fun c => ?_) (fun c => ?_)
  · have h := h.1 c
    refine g_iconst X (v := (0 : Int32)) dST_placeOf_17 (by decide) ?_
    exact g_iret X hr hlk dST_placeOf_18 ⟨_, rfl, h⟩
  · have h := h.2 c
    refine g_iload_n X dST_placeOf_5 rfl 2 rfl ?_
    refine g_if_lt X dST_placeOf_6 (fun c => ?_) (fun c => ?_)
    · have h := h.1 c
      refine g_iconst X (v := (0 : Int32)) dST_placeOf_17 (by decide) ?_
      exact g_iret X hr hlk dST_placeOf_18 ⟨_, rfl, h⟩
    · have h := h.2 c
      refine g_iload_n X dST_placeOf_9 rfl 2 rfl ?_
      refine g_aload_n X dST_placeOf_10 rfl 1 rfl ?_
      refine g_alen X hK.1 ly_24 (by decide) (v := (16 : Int32)) (by decide) dST_placeOf_11 ?_
      refine g_iload_n X dST_placeOf_12 rfl 3 rfl ?_
      refine g_isub X dST_placeOf_13 ?_
      refine g_icmp_le X dST_placeOf_14 (fun c => ?_) (fun c => ?_)
      · have h := h.1 c
        refine g_iconst X (v := (1 : Int32)) dST_placeOf_19 (by decide) ?_
        refine g_istore X (L' := [(4, .int (1 : Int32)), (0, .ref (base + 22)), (1, .ref (base + 24)), (2, .int a1), (3, .int a2)]) dST_placeOf_20 (Nat.le_of_ble_eq_true rfl) rfl ?_
        refine g_sub (L' := [(0, .ref (base + 22)), (1, .ref (base + 24)), (2, .int a1), (3, .int a2), (4, .int (1 : Int32))]) [1, 2, 3, 4, 0] rfl ?_
        obtain ⟨n9, h⟩ := h
        exact r_22 n9 a1 a2 (1 : Int32) M h
      · have h := h.2 c
        refine g_iconst X (v := (0 : Int32)) dST_placeOf_17 (by decide) ?_
        exact g_iret X hr hlk dST_placeOf_18 ⟨_, rfl, h⟩
set_option maxRecDepth 100000 in
set_option maxHeartbeats 4000000 in
theorem m_WR_numberEntries {l : Launch} {D : va_G} {ta : Nat → ClassId} {base : Nat} {sa : Nat → Nat} {post : gMem → Prop} {M : gMem} (h : wp_WR_numberEntries post M) : GC gLay gCl D ta base gNw sa gTabs gTs l y_WR_numberEntries b_WR_numberEntries 2 none 5 109 [.ref (base + 19)] M (gPv post) := by
  refine GC.of (own := "ObjectFile$Writer") pn_WR rfl (Nat.le_of_ble_eq_true rfl) ?_
  intro p e s m below meth c X hK hr hlk
  have r_14 : ∀ (n : Nat) (v1 : Int32) (M : gMem), wl_WR_numberEntries_14 post n v1 M → GMx D ta base p l e 5 109 s m [.ref (base + 19)] below meth c (gPv post) 2 14 [(0, .ref (base + 19)), (1, .int v1)] [] M := by
    intro n
    induction n with
    | zero => exact fun _ M h => h.elim
    | succ n ih =>
      intro v1 M h
      refine g_iload_n X dWR_numberEntries_14 rfl 1 rfl ?_
      refine g_bipush X (v := (11 : Int32)) dWR_numberEntries_15 (by decide) ?_
      refine g_icmp_ge X dWR_numberEntries_17 (fun c => ?_) (fun c => ?_)
      · have h := h.1 c
        refine g_aload_n X dWR_numberEntries_84 rfl 0 rfl ?_
        refine g_getr X hK.1 fw_WR_35 ly_19 rfl dWR_numberEntries_85 ?_
        refine g_bipush X (v := (10 : Int32)) dWR_numberEntries_88 (by decide) ?_
        refine g_aload_n X dWR_numberEntries_90 rfl 0 rfl ?_
        refine g_getr X hK.1 fw_WR_18 ly_19 rfl dWR_numberEntries_91 ?_
        refine g_getiN X hK.1 (gNw_of hK) fw_WR_137 ly_22 rfl dWR_numberEntries_94 ?_
        obtain ⟨hi, h⟩ := h
        refine g_iast X hK.1 ly_28 hi dWR_numberEntries_97 ?_
        refine g_topM (fun M4 eM4 => ?_)
        have h := h M4 eM4
        exact g_vret X hr hlk dWR_numberEntries_98 ⟨rfl, h⟩
      · have h := h.2 c
        refine g_aload_n X dWR_numberEntries_20 rfl 0 rfl ?_
        refine g_getr X hK.1 fw_WR_25 ly_19 rfl dWR_numberEntries_21 ?_
        refine g_iload_n X dWR_numberEntries_24 rfl 1 rfl ?_
        refine g_iconst X (v := (0 : Int32)) dWR_numberEntries_25 (by decide) ?_
        obtain ⟨hi, h⟩ := h
        refine g_iast X hK.1 ly_25 hi dWR_numberEntries_26 ?_
        refine g_topM (fun M5 eM5 => ?_)
        have h := h M5 eM5
        refine g_aload_n X dWR_numberEntries_27 rfl 0 rfl ?_
        refine g_iload_n X dWR_numberEntries_28 rfl 1 rfl ?_
        refine g_callV X hK gTs_ok ly_19 rfl mw_WR_isThere tw_444 mi_WR_isThere ms_WR_isThere (As := [.int v1]) rfl ⟨(Nat.le_of_ble_eq_true rfl), (Nat.le_of_ble_eq_true rfl), Nat.le_refl _, Nat.le_refl _⟩ (m_WR_isThere h) (rest := []) rfl (Nat.le_of_ble_eq_true rfl) dWR_numberEntries_29 (gk_z (fun r6 M7 h => ?_))
        refine g_if_eq X dWR_numberEntries_32 (fun c => ?_) (fun c => ?_)
        · have h := h.1 c
          obtain ⟨x8, ex8⟩ : ∃ z : Int32, z = v1 + (1 : Int32) := ⟨_, rfl⟩
          have h := h x8 ex8
          refine g_iinc X (L' := [(1, .int x8), (0, .ref (base + 19))]) (k := 1) dWR_numberEntries_78 rfl (v := x8) (by rw [ex8]; rfl) (Nat.le_of_ble_eq_true rfl) rfl ?_
          refine g_goto X dWR_numberEntries_81 ?_
          refine g_sub (L' := [(0, .ref (base + 19)), (1, .int x8)]) [1, 0] rfl ?_
          exact ih x8 M7 h
        · have h := h.2 c
          refine g_aload_n X dWR_numberEntries_35 rfl 0 rfl ?_
          refine g_getr X hK.1 fw_WR_25 ly_19 rfl dWR_numberEntries_36 ?_
          refine g_iload_n X dWR_numberEntries_39 rfl 1 rfl ?_
          refine g_aload_n X dWR_numberEntries_40 rfl 0 rfl ?_
          refine g_geti X hK.1 fw_WR_86 ly_19 rfl dWR_numberEntries_41 ?_
          obtain ⟨hi, h⟩ := h
          refine g_iast X hK.1 ly_25 hi dWR_numberEntries_44 ?_
          refine g_topM (fun M9 eM9 => ?_)
          have h := h M9 eM9
          refine g_aload_n X dWR_numberEntries_45 rfl 0 rfl ?_
          refine g_dup X dWR_numberEntries_46 rfl ?_
          refine g_geti X hK.1 fw_WR_86 ly_19 rfl dWR_numberEntries_47 ?_
          refine g_iconst X (v := (1 : Int32)) dWR_numberEntries_50 (by decide) ?_
          refine g_iadd X dWR_numberEntries_51 ?_
          refine g_puti X hK.1 fw_WR_86 pw_WR_13 ly_19 rfl dWR_numberEntries_52 ?_
          refine g_topM (fun M10 eM10 => ?_)
          have h := h M10 eM10
          refine g_aload_n X dWR_numberEntries_55 rfl 0 rfl ?_
          refine g_getr X hK.1 fw_WR_29 ly_19 rfl dWR_numberEntries_56 ?_
          refine g_iload_n X dWR_numberEntries_59 rfl 1 rfl ?_
          refine g_aload_n X dWR_numberEntries_60 rfl 0 rfl ?_
          refine g_getr X hK.1 fw_WR_18 ly_19 rfl dWR_numberEntries_61 ?_
          refine g_aload_n X dWR_numberEntries_64 rfl 0 rfl ?_
          refine g_getr X hK.1 fw_WR_21 ly_19 rfl dWR_numberEntries_65 ?_
          refine g_iconst X (v := (0 : Int32)) dWR_numberEntries_68 (by decide) ?_
          refine g_aload_n X dWR_numberEntries_69 rfl 0 rfl ?_
          refine g_iload_n X dWR_numberEntries_70 rfl 1 rfl ?_
          refine g_callV X hK gTs_ok ly_19 rfl mw_WR_spell tw_448 mi_WR_spell ms_WR_spell (As := [.int v1]) rfl ⟨(Nat.le_of_ble_eq_true rfl), (Nat.le_of_ble_eq_true rfl), Nat.le_refl _, Nat.le_refl _⟩ (m_WR_spell h) (rest := [.int (0 : Int32), .ref (base + 24), .ref (base + 22), .int v1, .ref (base + 26)]) rfl (Nat.le_of_ble_eq_true rfl) dWR_numberEntries_71 (gk_i (fun r11 M12 h => ?_))
          refine g_callVN X hK gTs_ok ly_22 rfl mw_ST_placeOf nw_419 mi_ST_placeOf ms_ST_placeOf (As := [.ref (base + 24), .int (0 : Int32), .int r11]) rfl ⟨(Nat.le_of_ble_eq_true rfl), (Nat.le_of_ble_eq_true rfl), Nat.le_refl _, Nat.le_refl _⟩ (m_ST_placeOf_l_24 h) (rest := [.int v1, .ref (base + 26)]) rfl (Nat.le_of_ble_eq_true rfl) dWR_numberEntries_74 (gk_i (fun r13 M14 h => ?_))
          obtain ⟨hi, h⟩ := h
          refine g_iast X hK.1 ly_26 hi dWR_numberEntries_77 ?_
          refine g_topM (fun M15 eM15 => ?_)
          have h := h M15 eM15
          obtain ⟨x16, ex16⟩ : ∃ z : Int32, z = v1 + (1 : Int32) := ⟨_, rfl⟩
          have h := h x16 ex16
          refine g_iinc X (L' := [(1, .int x16), (0, .ref (base + 19))]) (k := 1) dWR_numberEntries_78 rfl (v := x16) (by rw [ex16]; rfl) (Nat.le_of_ble_eq_true rfl) rfl ?_
          refine g_goto X dWR_numberEntries_81 ?_
          refine g_sub (L' := [(0, .ref (base + 19)), (1, .int x16)]) [1, 0] rfl ?_
          exact ih x16 M15 h
  refine g_args (L' := [(0, .ref (base + 19))]) rfl ?_
  unfold wp_WR_numberEntries at h
  refine g_aload_n X dWR_numberEntries_0 rfl 0 rfl ?_
  refine g_getr X hK.1 fw_WR_18 ly_19 rfl dWR_numberEntries_1 ?_
  refine g_callVN X hK gTs_ok ly_22 rfl mw_ST_restart nw_415 mi_ST_restart ms_ST_restart (As := []) rfl ⟨(Nat.le_of_ble_eq_true rfl), (Nat.le_of_ble_eq_true rfl), Nat.le_refl _, Nat.le_refl _⟩ (m_ST_restart_l h) (rest := []) rfl (Nat.le_of_ble_eq_true rfl) dWR_numberEntries_4 (gk_v (fun M2 h => ?_))
  refine g_aload_n X dWR_numberEntries_7 rfl 0 rfl ?_
  refine g_iconst X (v := (1 : Int32)) dWR_numberEntries_8 (by decide) ?_
  refine g_puti X hK.1 fw_WR_86 pw_WR_13 ly_19 rfl dWR_numberEntries_9 ?_
  refine g_topM (fun M3 eM3 => ?_)
  have h := h M3 eM3
  refine g_iconst X (v := (0 : Int32)) dWR_numberEntries_12 (by decide) ?_
  refine g_istore_n X (L' := [(1, .int (0 : Int32)), (0, .ref (base + 19))]) dWR_numberEntries_13 rfl (Nat.le_of_ble_eq_true rfl) rfl ?_
  refine g_sub (L' := [(0, .ref (base + 19)), (1, .int (0 : Int32))]) [1, 0] rfl ?_
  obtain ⟨n9, h⟩ := h
  exact r_14 n9 (0 : Int32) M3 h
set_option maxRecDepth 100000 in
set_option maxHeartbeats 4000000 in
theorem m_WR_upTo {l : Launch} {D : va_G} {ta : Nat → ClassId} {base : Nat} {sa : Nat → Nat} {post : Int32 → gMem → Prop} {a0 : Int32} {a1 : Int32} {M : gMem} (h : wp_WR_upTo post a0 a1 M) : GC gLay gCl D ta base gNw sa gTabs gTs l y_WR_upTo b_WR_upTo 2 (some .int) 0 0 [.int a0, .int a1] M (gPi post) := by
  refine GC.of (own := "ObjectFile$Writer") pn_WR rfl (Nat.le_of_ble_eq_true rfl) ?_
  intro p e s m below meth c X hK hr hlk
  refine g_args (L' := [(0, .int a0), (1, .int a1)]) rfl ?_
  unfold wp_WR_upTo at h
  refine g_iload_n X dWR_upTo_0 rfl 0 rfl ?_
  refine g_iload_n X dWR_upTo_1 rfl 1 rfl ?_
  refine g_iadd X dWR_upTo_2 ?_
  refine g_iconst X (v := (1 : Int32)) dWR_upTo_3 (by decide) ?_
  refine g_isub X dWR_upTo_4 ?_
  refine g_iload_n X dWR_upTo_5 rfl 1 rfl ?_
  refine g_ineg X dWR_upTo_6 ?_
  refine g_iand X dWR_upTo_7 ?_
  exact g_iret X hr hlk dWR_upTo_8 ⟨_, rfl, h⟩
set_option maxRecDepth 100000 in
set_option maxHeartbeats 4000000 in
theorem m_WR_alignmentOf {l : Launch} {D : va_G} {ta : Nat → ClassId} {base : Nat} {sa : Nat → Nat} {post : Int32 → gMem → Prop} {a0 : Int32} {M : gMem} (h : wp_WR_alignmentOf post a0 M) : GC gLay gCl D ta base gNw sa gTabs gTs l y_WR_alignmentOf b_WR_alignmentOf 2 (some .int) 0 0 [.ref (base + 19), .int a0] M (gPi post) := by
  refine GC.of (own := "ObjectFile$Writer") pn_WR rfl (Nat.le_of_ble_eq_true rfl) ?_
  intro p e s m below meth c X hK hr hlk
  refine g_args (L' := [(0, .ref (base + 19)), (1, .int a0)]) rfl ?_
  unfold wp_WR_alignmentOf at h
  refine g_iload_n X dWR_alignmentOf_0 rfl 1 rfl ?_
  refine g_iconst X (v := (3 : Int32)) dWR_alignmentOf_1 (by decide) ?_
  refine g_icmp_gt X dWR_alignmentOf_2 (fun c => ?_) (fun c => ?_)
  · have h := h.1 c
    refine g_getsN X hK (j := 0) rfl nw_525 dWR_alignmentOf_17 ?_
    refine g_iload_n X dWR_alignmentOf_20 rfl 1 rfl ?_
    obtain ⟨hi, h⟩ := h
    refine g_tald X hK (j := 0) rfl rfl hi dWR_alignmentOf_21 ?_
    exact g_iret X hr hlk dWR_alignmentOf_22 ⟨_, rfl, h⟩
  · have h := h.2 c
    refine g_aload_n X dWR_alignmentOf_5 rfl 0 rfl ?_
    refine g_getr X hK.1 fw_WR_47 ly_19 rfl dWR_alignmentOf_6 ?_
    refine g_getrN X hK.1 (gNw_of hK) fw_WR_171 ly_1 rfl dWR_alignmentOf_9 ?_
    refine g_iload_n X dWR_alignmentOf_12 rfl 1 rfl ?_
    obtain ⟨hi, h⟩ := h
    refine g_iald X hK.1 ly_4 hi dWR_alignmentOf_13 ?_
    refine g_goto X dWR_alignmentOf_14 ?_
    exact g_iret X hr hlk dWR_alignmentOf_22 ⟨_, rfl, h⟩
set_option maxRecDepth 100000 in
set_option maxHeartbeats 4000000 in
theorem m_WR_layParts {l : Launch} {D : va_G} {ta : Nat → ClassId} {base : Nat} {sa : Nat → Nat} {post : gMem → Prop} {M : gMem} (h : wp_WR_layParts post M) : GC gLay gCl D ta base gNw sa gTabs gTs l y_WR_layParts b_WR_layParts 3 none 1 21 [.ref (base + 19)] M (gPv post) := by
  refine GC.of (own := "ObjectFile$Writer") pn_WR rfl (Nat.le_of_ble_eq_true rfl) ?_
  intro p e s m below meth c X hK hr hlk
  have r_5 : ∀ (n : Nat) (v1 : Int32) (v2 : Int32) (M : gMem), wl_WR_layParts_5 post n v1 v2 M → GMx D ta base p l e 1 21 s m [.ref (base + 19)] below meth c (gPv post) 3 5 [(0, .ref (base + 19)), (1, .int v1), (2, .int v2)] [] M := by
    intro n
    induction n with
    | zero => exact fun _ _ M h => h.elim
    | succ n ih =>
      intro v1 v2 M h
      refine g_iload_n X dWR_layParts_5 rfl 2 rfl ?_
      refine g_bipush X (v := (11 : Int32)) dWR_layParts_6 (by decide) ?_
      refine g_icmp_ge X dWR_layParts_8 (fun c => ?_) (fun c => ?_)
      · have h := h.1 c
        refine g_aload_n X dWR_layParts_69 rfl 0 rfl ?_
        refine g_iload_n X dWR_layParts_70 rfl 1 rfl ?_
        refine g_iconst X (v := (4 : Int32)) dWR_layParts_71 (by decide) ?_
        refine g_callS X hK gTs_ok mw_WR_upTo tw_527 mt_WR_upTo (As := [.int v1, .int (4 : Int32)]) rfl ⟨(Nat.le_of_ble_eq_true rfl), (Nat.le_of_ble_eq_true rfl), Nat.le_refl _, Nat.le_refl _⟩ (m_WR_upTo h) (rest := [.ref (base + 19)]) rfl (Nat.le_of_ble_eq_true rfl) dWR_layParts_72 (gk_i (fun r1 M2 h => ?_))
        refine g_puti X hK.1 fw_WR_82 pw_WR_14 ly_19 rfl dWR_layParts_75 ?_
        refine g_topM (fun M3 eM3 => ?_)
        have h := h M3 eM3
        exact g_vret X hr hlk dWR_layParts_78 ⟨rfl, h⟩
      · have h := h.2 c
        refine g_iload_n X dWR_layParts_11 rfl 2 rfl ?_
        refine g_iconst X (v := (3 : Int32)) dWR_layParts_12 (by decide) ?_
        refine g_icmp_ne X dWR_layParts_13 (fun c => ?_) (fun c => ?_)
        · have h := h.1 c
          refine g_aload_n X dWR_layParts_26 rfl 0 rfl ?_
          refine g_iload_n X dWR_layParts_27 rfl 2 rfl ?_
          refine g_callV X hK gTs_ok ly_19 rfl mw_WR_isThere tw_444 mi_WR_isThere ms_WR_isThere (As := [.int v2]) rfl ⟨(Nat.le_of_ble_eq_true rfl), (Nat.le_of_ble_eq_true rfl), Nat.le_refl _, Nat.le_refl _⟩ (m_WR_isThere h) (rest := []) rfl (Nat.le_of_ble_eq_true rfl) dWR_layParts_28 (gk_z (fun r4 M5 h => ?_))
          refine g_if_eq X dWR_layParts_31 (fun c => ?_) (fun c => ?_)
          · have h := h.1 c
            obtain ⟨x6, ex6⟩ : ∃ z : Int32, z = v2 + (1 : Int32) := ⟨_, rfl⟩
            have h := h x6 ex6
            refine g_iinc X (L' := [(2, .int x6), (0, .ref (base + 19)), (1, .int v1)]) (k := 2) dWR_layParts_63 rfl (v := x6) (by rw [ex6]; rfl) (Nat.le_of_ble_eq_true rfl) rfl ?_
            refine g_goto X dWR_layParts_66 ?_
            refine g_sub (L' := [(0, .ref (base + 19)), (1, .int v1), (2, .int x6)]) [1, 2, 0] rfl ?_
            exact ih v1 x6 M5 h
          · have h := h.2 c
            refine g_aload_n X dWR_layParts_34 rfl 0 rfl ?_
            refine g_getr X hK.1 fw_WR_32 ly_19 rfl dWR_layParts_35 ?_
            refine g_iload_n X dWR_layParts_38 rfl 2 rfl ?_
            refine g_iload_n X dWR_layParts_39 rfl 1 rfl ?_
            refine g_aload_n X dWR_layParts_40 rfl 0 rfl ?_
            refine g_iload_n X dWR_layParts_41 rfl 2 rfl ?_
            refine g_callV X hK gTs_ok ly_19 rfl mw_WR_alignmentOf tw_521 mi_WR_alignmentOf ms_WR_alignmentOf (As := [.int v2]) rfl ⟨(Nat.le_of_ble_eq_true rfl), (Nat.le_of_ble_eq_true rfl), Nat.le_refl _, Nat.le_refl _⟩ (m_WR_alignmentOf h) (rest := [.int v1, .int v2, .ref (base + 27)]) rfl (Nat.le_of_ble_eq_true rfl) dWR_layParts_42 (gk_i (fun r7 M8 h => ?_))
            refine g_callS X hK gTs_ok mw_WR_upTo tw_527 mt_WR_upTo (As := [.int v1, .int r7]) rfl ⟨(Nat.le_of_ble_eq_true rfl), (Nat.le_of_ble_eq_true rfl), Nat.le_refl _, Nat.le_refl _⟩ (m_WR_upTo h) (rest := [.int v2, .ref (base + 27)]) rfl (Nat.le_of_ble_eq_true rfl) dWR_layParts_45 (gk_i (fun r9 M10 h => ?_))
            obtain ⟨hi, h⟩ := h
            refine g_iast X hK.1 ly_27 hi dWR_layParts_48 ?_
            refine g_topM (fun M11 eM11 => ?_)
            have h := h M11 eM11
            refine g_aload_n X dWR_layParts_49 rfl 0 rfl ?_
            refine g_getr X hK.1 fw_WR_32 ly_19 rfl dWR_layParts_50 ?_
            refine g_iload_n X dWR_layParts_53 rfl 2 rfl ?_
            obtain ⟨hi, h⟩ := h
            refine g_iald X hK.1 ly_27 hi dWR_layParts_54 ?_
            refine g_aload_n X dWR_layParts_55 rfl 0 rfl ?_
            refine g_getr X hK.1 fw_WR_35 ly_19 rfl dWR_layParts_56 ?_
            refine g_iload_n X dWR_layParts_59 rfl 2 rfl ?_
            obtain ⟨hi, h⟩ := h
            refine g_iald X hK.1 ly_28 hi dWR_layParts_60 ?_
            refine g_iadd X dWR_layParts_61 ?_
            refine g_topi (fun x12 ex12 => ?_)
            have h := h x12 ex12
            refine g_istore_n X (L' := [(1, .int x12), (0, .ref (base + 19)), (2, .int v2)]) dWR_layParts_62 rfl (Nat.le_of_ble_eq_true rfl) rfl ?_
            obtain ⟨x13, ex13⟩ : ∃ z : Int32, z = v2 + (1 : Int32) := ⟨_, rfl⟩
            have h := h x13 ex13
            refine g_iinc X (L' := [(2, .int x13), (1, .int x12), (0, .ref (base + 19))]) (k := 2) dWR_layParts_63 rfl (v := x13) (by rw [ex13]; rfl) (Nat.le_of_ble_eq_true rfl) rfl ?_
            refine g_goto X dWR_layParts_66 ?_
            refine g_sub (L' := [(0, .ref (base + 19)), (1, .int x12), (2, .int x13)]) [2, 1, 0] rfl ?_
            exact ih x12 x13 M11 h
        · have h := h.2 c
          refine g_aload_n X dWR_layParts_16 rfl 0 rfl ?_
          refine g_getr X hK.1 fw_WR_32 ly_19 rfl dWR_layParts_17 ?_
          refine g_iconst X (v := (3 : Int32)) dWR_layParts_20 (by decide) ?_
          refine g_iload_n X dWR_layParts_21 rfl 1 rfl ?_
          obtain ⟨hi, h⟩ := h
          refine g_iast X hK.1 ly_27 hi dWR_layParts_22 ?_
          refine g_topM (fun M14 eM14 => ?_)
          have h := h M14 eM14
          refine g_goto X dWR_layParts_23 ?_
          obtain ⟨x15, ex15⟩ : ∃ z : Int32, z = v2 + (1 : Int32) := ⟨_, rfl⟩
          have h := h x15 ex15
          refine g_iinc X (L' := [(2, .int x15), (0, .ref (base + 19)), (1, .int v1)]) (k := 2) dWR_layParts_63 rfl (v := x15) (by rw [ex15]; rfl) (Nat.le_of_ble_eq_true rfl) rfl ?_
          refine g_goto X dWR_layParts_66 ?_
          refine g_sub (L' := [(0, .ref (base + 19)), (1, .int v1), (2, .int x15)]) [1, 2, 0] rfl ?_
          exact ih v1 x15 M14 h
  refine g_args (L' := [(0, .ref (base + 19))]) rfl ?_
  unfold wp_WR_layParts at h
  refine g_bipush X (v := (52 : Int32)) dWR_layParts_0 (by decide) ?_
  refine g_istore_n X (L' := [(1, .int (52 : Int32)), (0, .ref (base + 19))]) dWR_layParts_2 rfl (Nat.le_of_ble_eq_true rfl) rfl ?_
  refine g_iconst X (v := (0 : Int32)) dWR_layParts_3 (by decide) ?_
  refine g_istore_n X (L' := [(2, .int (0 : Int32)), (1, .int (52 : Int32)), (0, .ref (base + 19))]) dWR_layParts_4 rfl (Nat.le_of_ble_eq_true rfl) rfl ?_
  refine g_sub (L' := [(0, .ref (base + 19)), (1, .int (52 : Int32)), (2, .int (0 : Int32))]) [2, 1, 0] rfl ?_
  obtain ⟨n9, h⟩ := h
  exact r_5 n9 (52 : Int32) (0 : Int32) M h
set_option maxRecDepth 100000 in
set_option maxHeartbeats 4000000 in
theorem m_AR_rangeCheck {l : Launch} {D : va_G} {ta : Nat → ClassId} {base : Nat} {sa : Nat → Nat} {post : gMem → Prop} {a0 : Int32} {a1 : Int32} {a2 : Int32} {M : gMem} (h : wp_AR_rangeCheck post a0 a1 a2 M) : GC gLay gCl D ta base gNw sa gTabs gTs l y_AR_rangeCheck b_AR_rangeCheck 3 none 0 0 [.int a0, .int a1, .int a2] M (gPv post) := by
  refine GC.of (own := "java/util/Arrays") pn_AR rfl (Nat.le_of_ble_eq_true rfl) ?_
  intro p e s m below meth c X hK hr hlk
  refine g_args (L' := [(0, .int a0), (1, .int a1), (2, .int a2)]) rfl ?_
  unfold wp_AR_rangeCheck at h
  refine g_iload_n X dAR_rangeCheck_0 rfl 1 rfl ?_
  refine g_iload_n X dAR_rangeCheck_1 rfl 2 rfl ?_
  refine g_icmp_le X dAR_rangeCheck_2 (fun c => ?_) (fun c => ?_)
  · have h := h.1 c
    refine g_iload_n X dAR_rangeCheck_46 rfl 1 rfl ?_
    refine g_if_ge X dAR_rangeCheck_47 (fun c => ?_) (fun c => ?_)
    · have h := h.1 c
      refine g_iload_n X dAR_rangeCheck_59 rfl 2 rfl ?_
      refine g_iload_n X dAR_rangeCheck_60 rfl 0 rfl ?_
      refine g_icmp_le X dAR_rangeCheck_61 (fun c => ?_) (fun c => ?_)
      · have h := h.1 c
        exact g_vret X hr hlk dAR_rangeCheck_73 ⟨rfl, h⟩
      · have h := h.2 c
        exact h.elim
    · have h := h.2 c
      exact h.elim
  · have h := h.2 c
    exact h.elim
set_option maxRecDepth 100000 in
set_option maxHeartbeats 4000000 in
theorem m_AR_fill0_18 {l : Launch} {D : va_G} {ta : Nat → ClassId} {base : Nat} {sa : Nat → Nat} {post : gMem → Prop} {a1 : Int32} {a2 : Int32} {a3 : Int32} {M : gMem} (h : wp_AR_fill0_18 post a1 a2 a3 M) : GC gLay gCl D ta base gNw sa gTabs gTs l y_AR_fill0 b_AR_fill0 5 none 1 22 [.ref (base + 18), .int a1, .int a2, .int a3] M (gPv post) := by
  refine GC.of (own := "java/util/Arrays") pn_AR rfl (Nat.le_of_ble_eq_true rfl) ?_
  intro p e s m below meth c X hK hr hlk
  have r_10 : ∀ (n : Nat) (v2 : Int32) (v3 : Int32) (v4 : Int32) (M : gMem), wl_AR_fill0_18_10 post n v2 v3 v4 M → GMx D ta base p l e 1 22 s m [.ref (base + 18), .int a1, .int a2, .int a3] below meth c (gPv post) 5 10 [(0, .ref (base + 18)), (2, .int v2), (3, .int v3), (4, .int v4)] [] M := by
    intro n
    induction n with
    | zero => exact fun _ _ _ M h => h.elim
    | succ n ih =>
      intro v2 v3 v4 M h
      refine g_iload X dAR_fill0_10 3 rfl ?_
      refine g_iload_n X dAR_fill0_12 rfl 1 rfl ?_
      refine g_icmp_ge X dAR_fill0_13 (fun c => ?_) (fun c => ?_)
      · have h := h.1 c
        exact g_vret X hr hlk dAR_fill0_27 ⟨rfl, h⟩
      · have h := h.2 c
        refine g_aload_n X dAR_fill0_16 rfl 0 rfl ?_
        refine g_iload X dAR_fill0_17 3 rfl ?_
        refine g_iload_n X dAR_fill0_19 rfl 2 rfl ?_
        obtain ⟨hi, h⟩ := h
        refine g_bast X hK.1 ly_18 hi dAR_fill0_20 ?_
        refine g_topM (fun M3 eM3 => ?_)
        have h := h M3 eM3
        obtain ⟨x4, ex4⟩ : ∃ z : Int32, z = v4 + (1 : Int32) := ⟨_, rfl⟩
        have h := h x4 ex4
        refine g_iinc X (L' := [(4, .int x4), (0, .ref (base + 18)), (2, .int v2), (3, .int v3)]) (k := 3) dAR_fill0_21 rfl (v := x4) (by rw [ex4]; rfl) (Nat.le_of_ble_eq_true rfl) rfl ?_
        refine g_goto X dAR_fill0_24 ?_
        refine g_sub (L' := [(0, .ref (base + 18)), (2, .int v2), (3, .int v3), (4, .int x4)]) [1, 2, 3, 0] rfl ?_
        exact ih v2 v3 x4 M3 h
  refine g_args (L' := [(0, .ref (base + 18)), (1, .int a1), (2, .int a2), (3, .int a3)]) rfl ?_
  unfold wp_AR_fill0_18 at h
  refine g_aload_n X dAR_fill0_0 rfl 0 rfl ?_
  refine g_alen X hK.1 ly_18 (by decide) (v := (8192 : Int32)) (by decide) dAR_fill0_1 ?_
  refine g_iload_n X dAR_fill0_2 rfl 1 rfl ?_
  refine g_iload_n X dAR_fill0_3 rfl 2 rfl ?_
  refine g_callS X hK gTs_ok mw_AR_rangeCheck tw_537 mt_AR_rangeCheck (As := [.int (8192 : Int32), .int a1, .int a2]) rfl ⟨(Nat.le_of_ble_eq_true rfl), (Nat.le_of_ble_eq_true rfl), Nat.le_refl _, Nat.le_refl _⟩ (m_AR_rangeCheck h) (rest := []) rfl (Nat.le_of_ble_eq_true rfl) dAR_fill0_4 (gk_v (fun M2 h => ?_))
  refine g_iload_n X dAR_fill0_7 rfl 1 rfl ?_
  refine g_istore X (L' := [(4, .int a1), (0, .ref (base + 18)), (1, .int a1), (2, .int a2), (3, .int a3)]) dAR_fill0_8 (Nat.le_of_ble_eq_true rfl) rfl ?_
  refine g_sub (L' := [(0, .ref (base + 18)), (2, .int a2), (3, .int a3), (4, .int a1)]) [1, 3, 4, 0] rfl ?_
  obtain ⟨n9, h⟩ := h
  exact r_10 n9 a2 a3 a1 M2 h
set_option maxRecDepth 100000 in
set_option maxHeartbeats 4000000 in
theorem m_FB_zeros {l : Launch} {D : va_G} {ta : Nat → ClassId} {base : Nat} {sa : Nat → Nat} {post : gMem → Prop} {a0 : Int32} {M : gMem} (h : wp_FB_zeros post a0 M) : GC gLay gCl D ta base gNw sa gTabs gTs l y_FB_zeros b_FB_zeros 2 none 2 46 [.ref (base + 17), .int a0] M (gPv post) := by
  refine GC.of (own := "ObjectFile$FileBytes") pn_FB rfl (Nat.le_of_ble_eq_true rfl) ?_
  intro p e s m below meth c X hK hr hlk
  refine g_args (L' := [(0, .ref (base + 17)), (1, .int a0)]) rfl ?_
  unfold wp_FB_zeros at h
  refine g_iload_n X dFB_zeros_0 rfl 1 rfl ?_
  refine g_if_lt X dFB_zeros_1 (fun c => ?_) (fun c => ?_)
  · have h := h.1 c
    exact g_vret X hr hlk dFB_zeros_11 ⟨rfl, h⟩
  · have h := h.2 c
    refine g_iload_n X dFB_zeros_4 rfl 1 rfl ?_
    refine g_sipush X (v := (8192 : Int32)) dFB_zeros_5 (by decide) ?_
    refine g_icmp_le X dFB_zeros_8 (fun c => ?_) (fun c => ?_)
    · have h := h.1 c
      refine g_aload_n X dFB_zeros_12 rfl 0 rfl ?_
      refine g_getr X hK.1 fw_FB_9 ly_17 rfl dFB_zeros_13 ?_
      refine g_iconst X (v := (0 : Int32)) dFB_zeros_16 (by decide) ?_
      refine g_iload_n X dFB_zeros_17 rfl 1 rfl ?_
      refine g_iconst X (v := (0 : Int32)) dFB_zeros_18 (by decide) ?_
      refine g_callS X hK gTs_ok mw_AR_fill0 tw_534 mt_AR_fill0 (As := [.ref (base + 18), .int (0 : Int32), .int a0, .int (0 : Int32)]) rfl ⟨(Nat.le_of_ble_eq_true rfl), (Nat.le_of_ble_eq_true rfl), Nat.le_refl _, Nat.le_refl _⟩ (m_AR_fill0_18 h) (rest := []) rfl (Nat.le_of_ble_eq_true rfl) dFB_zeros_19 (gk_v (fun M2 h => ?_))
      refine g_aload_n X dFB_zeros_22 rfl 0 rfl ?_
      refine g_iload_n X dFB_zeros_23 rfl 1 rfl ?_
      refine g_puti X hK.1 fw_FB_15 pw_FB_1 ly_17 rfl dFB_zeros_24 ?_
      refine g_topM (fun M3 eM3 => ?_)
      have h := h M3 eM3
      exact g_vret X hr hlk dFB_zeros_27 ⟨rfl, h⟩
    · have h := h.2 c
      exact g_vret X hr hlk dFB_zeros_11 ⟨rfl, h⟩
set_option maxRecDepth 100000 in
set_option maxHeartbeats 4000000 in
theorem m_FB_put2 {l : Launch} {D : va_G} {ta : Nat → ClassId} {base : Nat} {sa : Nat → Nat} {post : gMem → Prop} {a0 : Int32} {a1 : Int32} {M : gMem} (h : wp_FB_put2 post a0 a1 M) : GC gLay gCl D ta base gNw sa gTabs gTs l y_FB_put2 b_FB_put2 3 none 0 0 [.ref (base + 17), .int a0, .int a1] M (gPv post) := by
  refine GC.of (own := "ObjectFile$FileBytes") pn_FB rfl (Nat.le_of_ble_eq_true rfl) ?_
  intro p e s m below meth c X hK hr hlk
  refine g_args (L' := [(0, .ref (base + 17)), (1, .int a0), (2, .int a1)]) rfl ?_
  unfold wp_FB_put2 at h
  refine g_iload_n X dFB_put2_0 rfl 1 rfl ?_
  refine g_if_lt X dFB_put2_1 (fun c => ?_) (fun c => ?_)
  · have h := h.1 c
    exact g_vret X hr hlk dFB_put2_35 ⟨rfl, h⟩
  · have h := h.2 c
    refine g_iload_n X dFB_put2_4 rfl 1 rfl ?_
    refine g_aload_n X dFB_put2_5 rfl 0 rfl ?_
    refine g_geti X hK.1 fw_FB_15 ly_17 rfl dFB_put2_6 ?_
    refine g_iconst X (v := (1 : Int32)) dFB_put2_9 (by decide) ?_
    refine g_isub X dFB_put2_10 ?_
    refine g_icmp_ge X dFB_put2_11 (fun c => ?_) (fun c => ?_)
    · have h := h.1 c
      exact g_vret X hr hlk dFB_put2_35 ⟨rfl, h⟩
    · have h := h.2 c
      refine g_aload_n X dFB_put2_14 rfl 0 rfl ?_
      refine g_getr X hK.1 fw_FB_9 ly_17 rfl dFB_put2_15 ?_
      refine g_iload_n X dFB_put2_18 rfl 1 rfl ?_
      refine g_iload_n X dFB_put2_19 rfl 2 rfl ?_
      refine g_i2b X dFB_put2_20 rfl ?_
      obtain ⟨hi, h⟩ := h
      refine g_bast X hK.1 ly_18 hi dFB_put2_21 ?_
      refine g_topM (fun M1 eM1 => ?_)
      have h := h M1 eM1
      refine g_aload_n X dFB_put2_22 rfl 0 rfl ?_
      refine g_getr X hK.1 fw_FB_9 ly_17 rfl dFB_put2_23 ?_
      refine g_iload_n X dFB_put2_26 rfl 1 rfl ?_
      refine g_iconst X (v := (1 : Int32)) dFB_put2_27 (by decide) ?_
      refine g_iadd X dFB_put2_28 ?_
      refine g_iload_n X dFB_put2_29 rfl 2 rfl ?_
      refine g_bipush X (v := (8 : Int32)) dFB_put2_30 (by decide) ?_
      refine g_iushr X dFB_put2_32 rfl ?_
      refine g_i2b X dFB_put2_33 rfl ?_
      obtain ⟨hi, h⟩ := h
      refine g_bast X hK.1 ly_18 hi dFB_put2_34 ?_
      refine g_topM (fun M2 eM2 => ?_)
      have h := h M2 eM2
      exact g_vret X hr hlk dFB_put2_35 ⟨rfl, h⟩
set_option maxRecDepth 100000 in
set_option maxHeartbeats 4000000 in
theorem m_FB_put4 {l : Launch} {D : va_G} {ta : Nat → ClassId} {base : Nat} {sa : Nat → Nat} {post : gMem → Prop} {a0 : Int32} {a1 : Int32} {M : gMem} (h : wp_FB_put4 post a0 a1 M) : GC gLay gCl D ta base gNw sa gTabs gTs l y_FB_put4 b_FB_put4 3 none 0 0 [.ref (base + 17), .int a0, .int a1] M (gPv post) := by
  refine GC.of (own := "ObjectFile$FileBytes") pn_FB rfl (Nat.le_of_ble_eq_true rfl) ?_
  intro p e s m below meth c X hK hr hlk
  refine g_args (L' := [(0, .ref (base + 17)), (1, .int a0), (2, .int a1)]) rfl ?_
  unfold wp_FB_put4 at h
  refine g_iload_n X dFB_put4_0 rfl 1 rfl ?_
  refine g_if_lt X dFB_put4_1 (fun c => ?_) (fun c => ?_)
  · have h := h.1 c
    exact g_vret X hr hlk dFB_put4_61 ⟨rfl, h⟩
  · have h := h.2 c
    refine g_iload_n X dFB_put4_4 rfl 1 rfl ?_
    refine g_aload_n X dFB_put4_5 rfl 0 rfl ?_
    refine g_geti X hK.1 fw_FB_15 ly_17 rfl dFB_put4_6 ?_
    refine g_iconst X (v := (3 : Int32)) dFB_put4_9 (by decide) ?_
    refine g_isub X dFB_put4_10 ?_
    refine g_icmp_ge X dFB_put4_11 (fun c => ?_) (fun c => ?_)
    · have h := h.1 c
      exact g_vret X hr hlk dFB_put4_61 ⟨rfl, h⟩
    · have h := h.2 c
      refine g_aload_n X dFB_put4_14 rfl 0 rfl ?_
      refine g_getr X hK.1 fw_FB_9 ly_17 rfl dFB_put4_15 ?_
      refine g_iload_n X dFB_put4_18 rfl 1 rfl ?_
      refine g_iload_n X dFB_put4_19 rfl 2 rfl ?_
      refine g_i2b X dFB_put4_20 rfl ?_
      obtain ⟨hi, h⟩ := h
      refine g_bast X hK.1 ly_18 hi dFB_put4_21 ?_
      refine g_topM (fun M1 eM1 => ?_)
      have h := h M1 eM1
      refine g_aload_n X dFB_put4_22 rfl 0 rfl ?_
      refine g_getr X hK.1 fw_FB_9 ly_17 rfl dFB_put4_23 ?_
      refine g_iload_n X dFB_put4_26 rfl 1 rfl ?_
      refine g_iconst X (v := (1 : Int32)) dFB_put4_27 (by decide) ?_
      refine g_iadd X dFB_put4_28 ?_
      refine g_iload_n X dFB_put4_29 rfl 2 rfl ?_
      refine g_bipush X (v := (8 : Int32)) dFB_put4_30 (by decide) ?_
      refine g_iushr X dFB_put4_32 rfl ?_
      refine g_i2b X dFB_put4_33 rfl ?_
      obtain ⟨hi, h⟩ := h
      refine g_bast X hK.1 ly_18 hi dFB_put4_34 ?_
      refine g_topM (fun M2 eM2 => ?_)
      have h := h M2 eM2
      refine g_aload_n X dFB_put4_35 rfl 0 rfl ?_
      refine g_getr X hK.1 fw_FB_9 ly_17 rfl dFB_put4_36 ?_
      refine g_iload_n X dFB_put4_39 rfl 1 rfl ?_
      refine g_iconst X (v := (2 : Int32)) dFB_put4_40 (by decide) ?_
      refine g_iadd X dFB_put4_41 ?_
      refine g_iload_n X dFB_put4_42 rfl 2 rfl ?_
      refine g_bipush X (v := (16 : Int32)) dFB_put4_43 (by decide) ?_
      refine g_iushr X dFB_put4_45 rfl ?_
      refine g_i2b X dFB_put4_46 rfl ?_
      obtain ⟨hi, h⟩ := h
      refine g_bast X hK.1 ly_18 hi dFB_put4_47 ?_
      refine g_topM (fun M3 eM3 => ?_)
      have h := h M3 eM3
      refine g_aload_n X dFB_put4_48 rfl 0 rfl ?_
      refine g_getr X hK.1 fw_FB_9 ly_17 rfl dFB_put4_49 ?_
      refine g_iload_n X dFB_put4_52 rfl 1 rfl ?_
      refine g_iconst X (v := (3 : Int32)) dFB_put4_53 (by decide) ?_
      refine g_iadd X dFB_put4_54 ?_
      refine g_iload_n X dFB_put4_55 rfl 2 rfl ?_
      refine g_bipush X (v := (24 : Int32)) dFB_put4_56 (by decide) ?_
      refine g_iushr X dFB_put4_58 rfl ?_
      refine g_i2b X dFB_put4_59 rfl ?_
      obtain ⟨hi, h⟩ := h
      refine g_bast X hK.1 ly_18 hi dFB_put4_60 ?_
      refine g_topM (fun M4 eM4 => ?_)
      have h := h M4 eM4
      exact g_vret X hr hlk dFB_put4_61 ⟨rfl, h⟩
set_option maxRecDepth 100000 in
set_option maxHeartbeats 4000000 in
theorem m_CT_byteOf_m {l : Launch} {D : va_G} {ta : Nat → ClassId} {base : Nat} {sa : Nat → Nat} {post : Int32 → gMem → Prop} {a0 : Int32} {a1 : Int32} {M : gMem} (h : wp_CT_byteOf_m post a0 a1 M) : GC gLay gCl D ta base gNw sa gTabs gTs l y_CT_byteOf b_CT_byteOf 3 (some .int) 0 0 [.ref (base + 1), .int a0, .int a1] M (gPi post) := by
  refine GC.of (own := "ObjectFile$Contents") pn_CT rfl (Nat.le_of_ble_eq_true rfl) ?_
  intro p e s m below meth c X hK hr hlk
  refine g_args (L' := [(0, .ref (base + 1)), (1, .int a0), (2, .int a1)]) rfl ?_
  unfold wp_CT_byteOf_m at h
  refine g_iload_n X dCT_byteOf_0 rfl 1 rfl ?_
  refine g_if_lt X dCT_byteOf_1 (fun c => ?_) (fun c => ?_)
  · have h := h.1 c
    refine g_iconst X (v := (-1 : Int32)) dCT_byteOf_23 (by decide) ?_
    exact g_iret X hr hlk dCT_byteOf_24 ⟨_, rfl, h⟩
  · have h := h.2 c
    refine g_iload_n X dCT_byteOf_4 rfl 1 rfl ?_
    refine g_iconst X (v := (2 : Int32)) dCT_byteOf_5 (by decide) ?_
    refine g_icmp_gt X dCT_byteOf_6 (fun c => ?_) (fun c => ?_)
    · have h := h.1 c
      refine g_iconst X (v := (-1 : Int32)) dCT_byteOf_23 (by decide) ?_
      exact g_iret X hr hlk dCT_byteOf_24 ⟨_, rfl, h⟩
    · have h := h.2 c
      refine g_iload_n X dCT_byteOf_9 rfl 2 rfl ?_
      refine g_if_lt X dCT_byteOf_10 (fun c => ?_) (fun c => ?_)
      · have h := h.1 c
        refine g_iconst X (v := (-1 : Int32)) dCT_byteOf_23 (by decide) ?_
        exact g_iret X hr hlk dCT_byteOf_24 ⟨_, rfl, h⟩
      · have h := h.2 c
        refine g_iload_n X dCT_byteOf_13 rfl 2 rfl ?_
        refine g_aload_n X dCT_byteOf_14 rfl 0 rfl ?_
        refine g_getr X hK.1 fw_CT_15 ly_1 rfl dCT_byteOf_15 ?_
        refine g_iload_n X dCT_byteOf_18 rfl 1 rfl ?_
        obtain ⟨hi, h⟩ := h
        refine g_iald X hK.1 ly_3 hi dCT_byteOf_19 ?_
        refine g_icmp_lt X dCT_byteOf_20 (fun c => ?_) (fun c => ?_)
        · have h := h.1 c
          refine g_aload_n X dCT_byteOf_25 rfl 0 rfl ?_
          refine g_getr X hK.1 fw_CT_9 ly_1 rfl dCT_byteOf_26 ?_
          refine g_iload_n X dCT_byteOf_29 rfl 1 rfl ?_
          refine g_sipush X (v := (2048 : Int32)) dCT_byteOf_30 (by decide) ?_
          refine g_imul X dCT_byteOf_33 ?_
          refine g_iload_n X dCT_byteOf_34 rfl 2 rfl ?_
          refine g_iadd X dCT_byteOf_35 ?_
          obtain ⟨hi, h⟩ := h
          refine g_bald X hK.1 ly_2 hi dCT_byteOf_36 ?_
          refine g_sipush X (v := (255 : Int32)) dCT_byteOf_37 (by decide) ?_
          refine g_iand X dCT_byteOf_40 ?_
          exact g_iret X hr hlk dCT_byteOf_41 ⟨_, rfl, h⟩
        · have h := h.2 c
          refine g_iconst X (v := (-1 : Int32)) dCT_byteOf_23 (by decide) ?_
          exact g_iret X hr hlk dCT_byteOf_24 ⟨_, rfl, h⟩
set_option maxRecDepth 100000 in
set_option maxHeartbeats 4000000 in
theorem m_OF_isShort {l : Launch} {D : va_G} {ta : Nat → ClassId} {base : Nat} {sa : Nat → Nat} {post : Bool → gMem → Prop} {a0 : Int32} {M : gMem} (h : wp_OF_isShort post a0 M) : GC gLay gCl D ta base gNw sa gTabs gTs l y_OF_isShort b_OF_isShort 1 (some .boolean) 0 0 [.int a0] M (gPz post) := by
  refine GC.of (own := "ObjectFile") pn_OF rfl (Nat.le_of_ble_eq_true rfl) ?_
  intro p e s m below meth c X hK hr hlk
  refine g_args (L' := [(0, .int a0)]) rfl ?_
  unfold wp_OF_isShort at h
  refine g_iload_n X dOF_isShort_0 rfl 0 rfl ?_
  refine g_iconst X (v := (3 : Int32)) dOF_isShort_1 (by decide) ?_
  refine g_iand X dOF_isShort_2 ?_
  refine g_iconst X (v := (3 : Int32)) dOF_isShort_3 (by decide) ?_
  refine g_icmp_eq X dOF_isShort_4 (fun c => ?_) (fun c => ?_)
  · have h := h.1 c
    refine g_iconst X (v := (0 : Int32)) dOF_isShort_11 (by decide) ?_
    exact g_zret X hr hlk (by decide) dOF_isShort_12 ⟨false, rfl, h⟩
  · have h := h.2 c
    refine g_iconst X (v := (1 : Int32)) dOF_isShort_7 (by decide) ?_
    refine g_goto X dOF_isShort_8 ?_
    exact g_zret X hr hlk (by decide) dOF_isShort_12 ⟨true, rfl, h⟩
set_option maxRecDepth 100000 in
set_option maxHeartbeats 4000000 in
theorem m_CT_shortStarts_m {l : Launch} {D : va_G} {ta : Nat → ClassId} {base : Nat} {sa : Nat → Nat} {post : Int32 → gMem → Prop} {M : gMem} (h : wp_CT_shortStarts_m post M) : GC gLay gCl D ta base gNw sa gTabs gTs l y_CT_shortStarts b_CT_shortStarts 3 (some .int) 1 22 [.ref (base + 1)] M (gPi post) := by
  refine GC.of (own := "ObjectFile$Contents") pn_CT rfl (Nat.le_of_ble_eq_true rfl) ?_
  intro p e s m below meth c X hK hr hlk
  have r_4 : ∀ (n : Nat) (v1 : Int32) (v2 : Int32) (M : gMem), wl_CT_shortStarts_m_4 post n v1 v2 M → GMx D ta base p l e 1 22 s m [.ref (base + 1)] below meth c (gPi post) 3 4 [(0, .ref (base + 1)), (1, .int v1), (2, .int v2)] [] M := by
    intro n
    induction n with
    | zero => exact fun _ _ M h => h.elim
    | succ n ih =>
      intro v1 v2 M h
      refine g_iload_n X dCT_shortStarts_4 rfl 2 rfl ?_
      refine g_aload_n X dCT_shortStarts_5 rfl 0 rfl ?_
      refine g_geti X hK.1 fw_CT_40 ly_1 rfl dCT_shortStarts_6 ?_
      refine g_icmp_ge X dCT_shortStarts_9 (fun c => ?_) (fun c => ?_)
      · have h := h.1 c
        refine g_iload_n X dCT_shortStarts_37 rfl 1 rfl ?_
        exact g_iret X hr hlk dCT_shortStarts_38 ⟨_, rfl, h⟩
      · have h := h.2 c
        refine g_aload_n X dCT_shortStarts_12 rfl 0 rfl ?_
        refine g_iconst X (v := (0 : Int32)) dCT_shortStarts_13 (by decide) ?_
        refine g_aload_n X dCT_shortStarts_14 rfl 0 rfl ?_
        refine g_iload_n X dCT_shortStarts_15 rfl 2 rfl ?_
        refine g_callV X hK gTs_ok ly_1 rfl mw_CT_startOf tw_296 mi_CT_startOf ms_CT_startOf (As := [.int v2]) rfl ⟨(Nat.le_of_ble_eq_true rfl), (Nat.le_of_ble_eq_true rfl), Nat.le_refl _, Nat.le_refl _⟩ (m_CT_startOf_m h) (rest := [.int (0 : Int32), .ref (base + 1)]) rfl (Nat.le_of_ble_eq_true rfl) dCT_shortStarts_16 (gk_i (fun r1 M2 h => ?_))
        refine g_callV X hK gTs_ok ly_1 rfl mw_CT_byteOf tw_562 mi_CT_byteOf ms_CT_byteOf (As := [.int (0 : Int32), .int r1]) rfl ⟨(Nat.le_of_ble_eq_true rfl), (Nat.le_of_ble_eq_true rfl), Nat.le_refl _, Nat.le_refl _⟩ (m_CT_byteOf_m h) (rest := []) rfl (Nat.le_of_ble_eq_true rfl) dCT_shortStarts_19 (gk_i (fun r3 M4 h => ?_))
        refine g_callSN X hK gTs_ok mw_OF_isShort nw_566 mt_OF_isShort (As := [.int r3]) rfl ⟨(Nat.le_of_ble_eq_true rfl), (Nat.le_of_ble_eq_true rfl), Nat.le_refl _, Nat.le_refl _⟩ (m_OF_isShort h) (rest := []) rfl (Nat.le_of_ble_eq_true rfl) dCT_shortStarts_22 (gk_z (fun r5 M6 h => ?_))
        refine g_if_eq X dCT_shortStarts_25 (fun c => ?_) (fun c => ?_)
        · have h := h.1 c
          obtain ⟨x7, ex7⟩ : ∃ z : Int32, z = v2 + (1 : Int32) := ⟨_, rfl⟩
          have h := h x7 ex7
          refine g_iinc X (L' := [(2, .int x7), (0, .ref (base + 1)), (1, .int v1)]) (k := 2) dCT_shortStarts_31 rfl (v := x7) (by rw [ex7]; rfl) (Nat.le_of_ble_eq_true rfl) rfl ?_
          refine g_goto X dCT_shortStarts_34 ?_
          refine g_sub (L' := [(0, .ref (base + 1)), (1, .int v1), (2, .int x7)]) [1, 2, 0] rfl ?_
          exact ih v1 x7 M6 h
        · have h := h.2 c
          obtain ⟨x8, ex8⟩ : ∃ z : Int32, z = v1 + (1 : Int32) := ⟨_, rfl⟩
          have h := h x8 ex8
          refine g_iinc X (L' := [(1, .int x8), (0, .ref (base + 1)), (2, .int v2)]) (k := 1) dCT_shortStarts_28 rfl (v := x8) (by rw [ex8]; rfl) (Nat.le_of_ble_eq_true rfl) rfl ?_
          obtain ⟨x9, ex9⟩ : ∃ z : Int32, z = v2 + (1 : Int32) := ⟨_, rfl⟩
          have h := h x9 ex9
          refine g_iinc X (L' := [(2, .int x9), (1, .int x8), (0, .ref (base + 1))]) (k := 2) dCT_shortStarts_31 rfl (v := x9) (by rw [ex9]; rfl) (Nat.le_of_ble_eq_true rfl) rfl ?_
          refine g_goto X dCT_shortStarts_34 ?_
          refine g_sub (L' := [(0, .ref (base + 1)), (1, .int x8), (2, .int x9)]) [2, 1, 0] rfl ?_
          exact ih x8 x9 M6 h
  refine g_args (L' := [(0, .ref (base + 1))]) rfl ?_
  unfold wp_CT_shortStarts_m at h
  refine g_iconst X (v := (0 : Int32)) dCT_shortStarts_0 (by decide) ?_
  refine g_istore_n X (L' := [(1, .int (0 : Int32)), (0, .ref (base + 1))]) dCT_shortStarts_1 rfl (Nat.le_of_ble_eq_true rfl) rfl ?_
  refine g_iconst X (v := (0 : Int32)) dCT_shortStarts_2 (by decide) ?_
  refine g_istore_n X (L' := [(2, .int (0 : Int32)), (1, .int (0 : Int32)), (0, .ref (base + 1))]) dCT_shortStarts_3 rfl (Nat.le_of_ble_eq_true rfl) rfl ?_
  refine g_sub (L' := [(0, .ref (base + 1)), (1, .int (0 : Int32)), (2, .int (0 : Int32))]) [2, 1, 0] rfl ?_
  obtain ⟨n9, h⟩ := h
  exact r_4 n9 (0 : Int32) (0 : Int32) M h
set_option maxRecDepth 100000 in
set_option maxHeartbeats 4000000 in
theorem m_FB_put1 {l : Launch} {D : va_G} {ta : Nat → ClassId} {base : Nat} {sa : Nat → Nat} {post : gMem → Prop} {a0 : Int32} {a1 : Int32} {M : gMem} (h : wp_FB_put1 post a0 a1 M) : GC gLay gCl D ta base gNw sa gTabs gTs l y_FB_put1 b_FB_put1 3 none 0 0 [.ref (base + 17), .int a0, .int a1] M (gPv post) := by
  refine GC.of (own := "ObjectFile$FileBytes") pn_FB rfl (Nat.le_of_ble_eq_true rfl) ?_
  intro p e s m below meth c X hK hr hlk
  refine g_args (L' := [(0, .ref (base + 17)), (1, .int a0), (2, .int a1)]) rfl ?_
  unfold wp_FB_put1 at h
  refine g_iload_n X dFB_put1_0 rfl 1 rfl ?_
  refine g_if_lt X dFB_put1_1 (fun c => ?_) (fun c => ?_)
  · have h := h.1 c
    exact g_vret X hr hlk dFB_put1_20 ⟨rfl, h⟩
  · have h := h.2 c
    refine g_iload_n X dFB_put1_4 rfl 1 rfl ?_
    refine g_aload_n X dFB_put1_5 rfl 0 rfl ?_
    refine g_geti X hK.1 fw_FB_15 ly_17 rfl dFB_put1_6 ?_
    refine g_icmp_ge X dFB_put1_9 (fun c => ?_) (fun c => ?_)
    · have h := h.1 c
      exact g_vret X hr hlk dFB_put1_20 ⟨rfl, h⟩
    · have h := h.2 c
      refine g_aload_n X dFB_put1_12 rfl 0 rfl ?_
      refine g_getr X hK.1 fw_FB_9 ly_17 rfl dFB_put1_13 ?_
      refine g_iload_n X dFB_put1_16 rfl 1 rfl ?_
      refine g_iload_n X dFB_put1_17 rfl 2 rfl ?_
      refine g_i2b X dFB_put1_18 rfl ?_
      obtain ⟨hi, h⟩ := h
      refine g_bast X hK.1 ly_18 hi dFB_put1_19 ?_
      refine g_topM (fun M1 eM1 => ?_)
      have h := h M1 eM1
      exact g_vret X hr hlk dFB_put1_20 ⟨rfl, h⟩
set_option maxRecDepth 100000 in
set_option maxHeartbeats 4000000 in
theorem m_WR_putHeader {l : Launch} {D : va_G} {ta : Nat → ClassId} {base : Nat} {sa : Nat → Nat} {post : gMem → Prop} {M : gMem} (h : wp_WR_putHeader post M) : GC gLay gCl D ta base gNw sa gTabs gTs l y_WR_putHeader b_WR_putHeader 2 none 2 44 [.ref (base + 19)] M (gPv post) := by
  refine GC.of (own := "ObjectFile$Writer") pn_WR rfl (Nat.le_of_ble_eq_true rfl) ?_
  intro p e s m below meth c X hK hr hlk
  have r_118 : ∀ (s0 : Int32) (s1 : Int32) (M : gMem), wj_WR_putHeader_118 post s0 s1 M → GMx D ta base p l e 2 44 s m [.ref (base + 19)] below meth c (gPv post) 2 118 [(0, .ref (base + 19))] [.int s0, .int s1, .ref (base + 17)] M := by
    intro s0 s1 M h
    unfold wj_WR_putHeader_118 at h
    refine g_callVN X hK gTs_ok ly_17 rfl mw_FB_put4 nw_554 mi_FB_put4 ms_FB_put4 (As := [.int s1, .int s0]) rfl ⟨(Nat.le_of_ble_eq_true rfl), (Nat.le_of_ble_eq_true rfl), Nat.le_refl _, Nat.le_refl _⟩ (m_FB_put4 h) (rest := []) rfl (Nat.le_of_ble_eq_true rfl) dWR_putHeader_118 (gk_v (fun M12 h => ?_))
    refine g_aload_n X dWR_putHeader_121 rfl 0 rfl ?_
    refine g_getr X hK.1 fw_WR_51 ly_19 rfl dWR_putHeader_122 ?_
    refine g_bipush X (v := (40 : Int32)) dWR_putHeader_125 (by decide) ?_
    refine g_bipush X (v := (52 : Int32)) dWR_putHeader_127 (by decide) ?_
    refine g_callVN X hK gTs_ok ly_17 rfl mw_FB_put2 nw_550 mi_FB_put2 ms_FB_put2 (As := [.int (40 : Int32), .int (52 : Int32)]) rfl ⟨(Nat.le_of_ble_eq_true rfl), (Nat.le_of_ble_eq_true rfl), Nat.le_refl _, Nat.le_refl _⟩ (m_FB_put2 h) (rest := []) rfl (Nat.le_of_ble_eq_true rfl) dWR_putHeader_129 (gk_v (fun M14 h => ?_))
    refine g_aload_n X dWR_putHeader_132 rfl 0 rfl ?_
    refine g_getr X hK.1 fw_WR_51 ly_19 rfl dWR_putHeader_133 ?_
    refine g_bipush X (v := (46 : Int32)) dWR_putHeader_136 (by decide) ?_
    refine g_bipush X (v := (40 : Int32)) dWR_putHeader_138 (by decide) ?_
    refine g_callVN X hK gTs_ok ly_17 rfl mw_FB_put2 nw_550 mi_FB_put2 ms_FB_put2 (As := [.int (46 : Int32), .int (40 : Int32)]) rfl ⟨(Nat.le_of_ble_eq_true rfl), (Nat.le_of_ble_eq_true rfl), Nat.le_refl _, Nat.le_refl _⟩ (m_FB_put2 h) (rest := []) rfl (Nat.le_of_ble_eq_true rfl) dWR_putHeader_140 (gk_v (fun M16 h => ?_))
    refine g_aload_n X dWR_putHeader_143 rfl 0 rfl ?_
    refine g_getr X hK.1 fw_WR_51 ly_19 rfl dWR_putHeader_144 ?_
    refine g_bipush X (v := (48 : Int32)) dWR_putHeader_147 (by decide) ?_
    refine g_aload_n X dWR_putHeader_149 rfl 0 rfl ?_
    refine g_geti X hK.1 fw_WR_86 ly_19 rfl dWR_putHeader_150 ?_
    refine g_callVN X hK gTs_ok ly_17 rfl mw_FB_put2 nw_550 mi_FB_put2 ms_FB_put2 (As := [.int (48 : Int32), .int (M16 19 13)]) rfl ⟨(Nat.le_of_ble_eq_true rfl), (Nat.le_of_ble_eq_true rfl), Nat.le_refl _, Nat.le_refl _⟩ (m_FB_put2 h) (rest := []) rfl (Nat.le_of_ble_eq_true rfl) dWR_putHeader_153 (gk_v (fun M18 h => ?_))
    refine g_aload_n X dWR_putHeader_156 rfl 0 rfl ?_
    refine g_getr X hK.1 fw_WR_51 ly_19 rfl dWR_putHeader_157 ?_
    refine g_bipush X (v := (50 : Int32)) dWR_putHeader_160 (by decide) ?_
    refine g_aload_n X dWR_putHeader_162 rfl 0 rfl ?_
    refine g_getr X hK.1 fw_WR_25 ly_19 rfl dWR_putHeader_163 ?_
    refine g_bipush X (v := (10 : Int32)) dWR_putHeader_166 (by decide) ?_
    obtain ⟨hi, h⟩ := h
    refine g_iald X hK.1 ly_25 hi dWR_putHeader_168 ?_
    refine g_callVN X hK gTs_ok ly_17 rfl mw_FB_put2 nw_550 mi_FB_put2 ms_FB_put2 (As := [.int (50 : Int32), .int (M18 25 ((10 : Int32)).toNatClampNeg)]) rfl ⟨(Nat.le_of_ble_eq_true rfl), (Nat.le_of_ble_eq_true rfl), Nat.le_refl _, Nat.le_refl _⟩ (m_FB_put2 h) (rest := []) rfl (Nat.le_of_ble_eq_true rfl) dWR_putHeader_169 (gk_v (fun M20 h => ?_))
    exact g_vret X hr hlk dWR_putHeader_172 ⟨rfl, h⟩
  have r_31 : ∀ (n : Nat) (v1 : Int32) (M : gMem), wl_WR_putHeader_31 post n v1 M → GMx D ta base p l e 2 44 s m [.ref (base + 19)] below meth c (gPv post) 2 31 [(0, .ref (base + 19)), (1, .int v1)] [] M := by
    intro n
    induction n with
    | zero => exact fun _ M h => h.elim
    | succ n ih =>
      intro v1 M h
      refine g_iload_n X dWR_putHeader_31 rfl 1 rfl ?_
      refine g_bipush X (v := (6 : Int32)) dWR_putHeader_32 (by decide) ?_
      refine g_icmp_gt X dWR_putHeader_34 (fun c => ?_) (fun c => ?_)
      · have h := h.1 c
        refine g_aload_n X dWR_putHeader_52 rfl 0 rfl ?_
        refine g_getr X hK.1 fw_WR_51 ly_19 rfl dWR_putHeader_53 ?_
        refine g_bipush X (v := (16 : Int32)) dWR_putHeader_56 (by decide) ?_
        refine g_iconst X (v := (1 : Int32)) dWR_putHeader_58 (by decide) ?_
        refine g_callVN X hK gTs_ok ly_17 rfl mw_FB_put2 nw_550 mi_FB_put2 ms_FB_put2 (As := [.int (16 : Int32), .int (1 : Int32)]) rfl ⟨(Nat.le_of_ble_eq_true rfl), (Nat.le_of_ble_eq_true rfl), Nat.le_refl _, Nat.le_refl _⟩ (m_FB_put2 h) (rest := []) rfl (Nat.le_of_ble_eq_true rfl) dWR_putHeader_59 (gk_v (fun M2 h => ?_))
        refine g_aload_n X dWR_putHeader_62 rfl 0 rfl ?_
        refine g_getr X hK.1 fw_WR_51 ly_19 rfl dWR_putHeader_63 ?_
        refine g_bipush X (v := (18 : Int32)) dWR_putHeader_66 (by decide) ?_
        refine g_sipush X (v := (243 : Int32)) dWR_putHeader_68 (by decide) ?_
        refine g_callVN X hK gTs_ok ly_17 rfl mw_FB_put2 nw_550 mi_FB_put2 ms_FB_put2 (As := [.int (18 : Int32), .int (243 : Int32)]) rfl ⟨(Nat.le_of_ble_eq_true rfl), (Nat.le_of_ble_eq_true rfl), Nat.le_refl _, Nat.le_refl _⟩ (m_FB_put2 h) (rest := []) rfl (Nat.le_of_ble_eq_true rfl) dWR_putHeader_71 (gk_v (fun M4 h => ?_))
        refine g_aload_n X dWR_putHeader_74 rfl 0 rfl ?_
        refine g_getr X hK.1 fw_WR_51 ly_19 rfl dWR_putHeader_75 ?_
        refine g_bipush X (v := (20 : Int32)) dWR_putHeader_78 (by decide) ?_
        refine g_iconst X (v := (1 : Int32)) dWR_putHeader_80 (by decide) ?_
        refine g_callVN X hK gTs_ok ly_17 rfl mw_FB_put4 nw_554 mi_FB_put4 ms_FB_put4 (As := [.int (20 : Int32), .int (1 : Int32)]) rfl ⟨(Nat.le_of_ble_eq_true rfl), (Nat.le_of_ble_eq_true rfl), Nat.le_refl _, Nat.le_refl _⟩ (m_FB_put4 h) (rest := []) rfl (Nat.le_of_ble_eq_true rfl) dWR_putHeader_81 (gk_v (fun M6 h => ?_))
        refine g_aload_n X dWR_putHeader_84 rfl 0 rfl ?_
        refine g_getr X hK.1 fw_WR_51 ly_19 rfl dWR_putHeader_85 ?_
        refine g_bipush X (v := (32 : Int32)) dWR_putHeader_88 (by decide) ?_
        refine g_aload_n X dWR_putHeader_90 rfl 0 rfl ?_
        refine g_geti X hK.1 fw_WR_82 ly_19 rfl dWR_putHeader_91 ?_
        refine g_callVN X hK gTs_ok ly_17 rfl mw_FB_put4 nw_554 mi_FB_put4 ms_FB_put4 (As := [.int (32 : Int32), .int (M6 19 14)]) rfl ⟨(Nat.le_of_ble_eq_true rfl), (Nat.le_of_ble_eq_true rfl), Nat.le_refl _, Nat.le_refl _⟩ (m_FB_put4 h) (rest := []) rfl (Nat.le_of_ble_eq_true rfl) dWR_putHeader_94 (gk_v (fun M8 h => ?_))
        refine g_aload_n X dWR_putHeader_97 rfl 0 rfl ?_
        refine g_getr X hK.1 fw_WR_51 ly_19 rfl dWR_putHeader_98 ?_
        refine g_bipush X (v := (36 : Int32)) dWR_putHeader_101 (by decide) ?_
        refine g_aload_n X dWR_putHeader_103 rfl 0 rfl ?_
        refine g_getr X hK.1 fw_WR_47 ly_19 rfl dWR_putHeader_104 ?_
        refine g_callVN X hK gTs_ok ly_1 rfl mw_CT_shortStarts nw_558 mi_CT_shortStarts ms_CT_shortStarts (As := []) rfl ⟨(Nat.le_of_ble_eq_true rfl), (Nat.le_of_ble_eq_true rfl), Nat.le_refl _, Nat.le_refl _⟩ (m_CT_shortStarts_m h) (rest := [.int (36 : Int32), .ref (base + 17)]) rfl (Nat.le_of_ble_eq_true rfl) dWR_putHeader_107 (gk_i (fun r9 M10 h => ?_))
        refine g_if_le X dWR_putHeader_110 (fun c => ?_) (fun c => ?_)
        · have h := h.1 c
          refine g_iconst X (v := (0 : Int32)) dWR_putHeader_117 (by decide) ?_
          refine g_sub (L' := [(0, .ref (base + 19))]) [0] rfl ?_
          exact r_118 (0 : Int32) (36 : Int32) M10 h
        · have h := h.2 c
          refine g_iconst X (v := (1 : Int32)) dWR_putHeader_113 (by decide) ?_
          refine g_goto X dWR_putHeader_114 ?_
          refine g_sub (L' := [(0, .ref (base + 19))]) [0] rfl ?_
          exact r_118 (1 : Int32) (36 : Int32) M10 h
      · have h := h.2 c
        refine g_aload_n X dWR_putHeader_37 rfl 0 rfl ?_
        refine g_getr X hK.1 fw_WR_51 ly_19 rfl dWR_putHeader_38 ?_
        refine g_iload_n X dWR_putHeader_41 rfl 1 rfl ?_
        refine g_iconst X (v := (1 : Int32)) dWR_putHeader_42 (by decide) ?_
        refine g_callVN X hK gTs_ok ly_17 rfl mw_FB_put1 nw_546 mi_FB_put1 ms_FB_put1 (As := [.int v1, .int (1 : Int32)]) rfl ⟨(Nat.le_of_ble_eq_true rfl), (Nat.le_of_ble_eq_true rfl), Nat.le_refl _, Nat.le_refl _⟩ (m_FB_put1 h) (rest := []) rfl (Nat.le_of_ble_eq_true rfl) dWR_putHeader_43 (gk_v (fun M22 h => ?_))
        obtain ⟨x23, ex23⟩ : ∃ z : Int32, z = v1 + (1 : Int32) := ⟨_, rfl⟩
        have h := h x23 ex23
        refine g_iinc X (L' := [(1, .int x23), (0, .ref (base + 19))]) (k := 1) dWR_putHeader_46 rfl (v := x23) (by rw [ex23]; rfl) (Nat.le_of_ble_eq_true rfl) rfl ?_
        refine g_goto X dWR_putHeader_49 ?_
        refine g_sub (L' := [(0, .ref (base + 19)), (1, .int x23)]) [1, 0] rfl ?_
        exact ih x23 M22 h
  have r_2 : ∀ (n : Nat) (v1 : Int32) (M : gMem), wl_WR_putHeader_2 post n v1 M → GMx D ta base p l e 2 44 s m [.ref (base + 19)] below meth c (gPv post) 2 2 [(0, .ref (base + 19)), (1, .int v1)] [] M := by
    intro n
    induction n with
    | zero => exact fun _ M h => h.elim
    | succ n ih =>
      intro v1 M h
      refine g_iload_n X dWR_putHeader_2 rfl 1 rfl ?_
      refine g_getsN X hK (j := 2) rfl nw_544 dWR_putHeader_3 ?_
      refine g_tlen X hK (j := 2) rfl (v := (4 : Int32)) (by decide) dWR_putHeader_6 ?_
      refine g_icmp_ge X dWR_putHeader_7 (fun c => ?_) (fun c => ?_)
      · have h := h.1 c
        refine g_iconst X (v := (4 : Int32)) dWR_putHeader_29 (by decide) ?_
        refine g_istore_n X (L' := [(1, .int (4 : Int32)), (0, .ref (base + 19))]) dWR_putHeader_30 rfl (Nat.le_of_ble_eq_true rfl) rfl ?_
        refine g_sub (L' := [(0, .ref (base + 19)), (1, .int (4 : Int32))]) [1, 0] rfl ?_
        obtain ⟨n9, h⟩ := h
        exact r_31 n9 (4 : Int32) M h
      · have h := h.2 c
        refine g_aload_n X dWR_putHeader_10 rfl 0 rfl ?_
        refine g_getr X hK.1 fw_WR_51 ly_19 rfl dWR_putHeader_11 ?_
        refine g_iload_n X dWR_putHeader_14 rfl 1 rfl ?_
        refine g_getsN X hK (j := 2) rfl nw_544 dWR_putHeader_15 ?_
        refine g_iload_n X dWR_putHeader_18 rfl 1 rfl ?_
        obtain ⟨hi, h⟩ := h
        refine g_tald X hK (j := 2) rfl rfl hi dWR_putHeader_19 ?_
        refine g_callVN X hK gTs_ok ly_17 rfl mw_FB_put1 nw_546 mi_FB_put1 ms_FB_put1 (As := [.int v1, .int (gTb2.getD (v1).toNatClampNeg 0)]) rfl ⟨(Nat.le_of_ble_eq_true rfl), (Nat.le_of_ble_eq_true rfl), Nat.le_refl _, Nat.le_refl _⟩ (m_FB_put1 h) (rest := []) rfl (Nat.le_of_ble_eq_true rfl) dWR_putHeader_20 (gk_v (fun M25 h => ?_))
        obtain ⟨x26, ex26⟩ : ∃ z : Int32, z = v1 + (1 : Int32) := ⟨_, rfl⟩
        have h := h x26 ex26
        refine g_iinc X (L' := [(1, .int x26), (0, .ref (base + 19))]) (k := 1) dWR_putHeader_23 rfl (v := x26) (by rw [ex26]; rfl) (Nat.le_of_ble_eq_true rfl) rfl ?_
        refine g_goto X dWR_putHeader_26 ?_
        refine g_sub (L' := [(0, .ref (base + 19)), (1, .int x26)]) [1, 0] rfl ?_
        exact ih x26 M25 h
  refine g_args (L' := [(0, .ref (base + 19))]) rfl ?_
  unfold wp_WR_putHeader at h
  refine g_iconst X (v := (0 : Int32)) dWR_putHeader_0 (by decide) ?_
  refine g_istore_n X (L' := [(1, .int (0 : Int32)), (0, .ref (base + 19))]) dWR_putHeader_1 rfl (Nat.le_of_ble_eq_true rfl) rfl ?_
  refine g_sub (L' := [(0, .ref (base + 19)), (1, .int (0 : Int32))]) [1, 0] rfl ?_
  obtain ⟨n9, h⟩ := h
  exact r_2 n9 (0 : Int32) M h
set_option maxRecDepth 100000 in
set_option maxHeartbeats 4000000 in
theorem m_FB_copyIn_21 {l : Launch} {D : va_G} {ta : Nat → ClassId} {base : Nat} {sa : Nat → Nat} {post : gMem → Prop} {a1 : Int32} {a2 : Int32} {a3 : Int32} {M : gMem} (h : wp_FB_copyIn_21 post a1 a2 a3 M) : GC gLay gCl D ta base gNw sa gTabs gTs l y_FB_copyIn b_FB_copyIn 5 none 1 18 [.ref (base + 17), .ref (base + 21), .int a1, .int a2, .int a3] M (gPv post) := by
  refine GC.of (own := "ObjectFile$FileBytes") pn_FB rfl (Nat.le_of_ble_eq_true rfl) ?_
  intro p e s m below meth c X hK hr hlk
  refine g_args (L' := [(0, .ref (base + 17)), (1, .ref (base + 21)), (2, .int a1), (3, .int a2), (4, .int a3)]) rfl ?_
  unfold wp_FB_copyIn_21 at h
  refine g_iload X dFB_copyIn_0 4 rfl ?_
  refine g_if_le X dFB_copyIn_2 (fun c => ?_) (fun c => ?_)
  · have h := h.1 c
    exact g_vret X hr hlk dFB_copyIn_45 ⟨rfl, h⟩
  · have h := h.2 c
    refine g_iload_n X dFB_copyIn_5 rfl 2 rfl ?_
    refine g_if_lt X dFB_copyIn_6 (fun c => ?_) (fun c => ?_)
    · have h := h.1 c
      exact g_vret X hr hlk dFB_copyIn_45 ⟨rfl, h⟩
    · have h := h.2 c
      refine g_iload_n X dFB_copyIn_9 rfl 2 rfl ?_
      refine g_aload_n X dFB_copyIn_10 rfl 1 rfl ?_
      refine g_alen X hK.1 ly_21 (by decide) (v := (1701 : Int32)) (by decide) dFB_copyIn_11 ?_
      refine g_iload X dFB_copyIn_12 4 rfl ?_
      refine g_isub X dFB_copyIn_14 ?_
      refine g_icmp_gt X dFB_copyIn_15 (fun c => ?_) (fun c => ?_)
      · have h := h.1 c
        exact g_vret X hr hlk dFB_copyIn_45 ⟨rfl, h⟩
      · have h := h.2 c
        refine g_iload_n X dFB_copyIn_18 rfl 3 rfl ?_
        refine g_if_lt X dFB_copyIn_19 (fun c => ?_) (fun c => ?_)
        · have h := h.1 c
          exact g_vret X hr hlk dFB_copyIn_45 ⟨rfl, h⟩
        · have h := h.2 c
          refine g_iload_n X dFB_copyIn_22 rfl 3 rfl ?_
          refine g_aload_n X dFB_copyIn_23 rfl 0 rfl ?_
          refine g_geti X hK.1 fw_FB_15 ly_17 rfl dFB_copyIn_24 ?_
          refine g_iload X dFB_copyIn_27 4 rfl ?_
          refine g_isub X dFB_copyIn_29 ?_
          refine g_icmp_gt X dFB_copyIn_30 (fun c => ?_) (fun c => ?_)
          · have h := h.1 c
            exact g_vret X hr hlk dFB_copyIn_45 ⟨rfl, h⟩
          · have h := h.2 c
            refine g_aload_n X dFB_copyIn_33 rfl 1 rfl ?_
            refine g_iload_n X dFB_copyIn_34 rfl 2 rfl ?_
            refine g_aload_n X dFB_copyIn_35 rfl 0 rfl ?_
            refine g_getr X hK.1 fw_FB_9 ly_17 rfl dFB_copyIn_36 ?_
            refine g_iload_n X dFB_copyIn_39 rfl 3 rfl ?_
            refine g_iload X dFB_copyIn_40 4 rfl ?_
            obtain ⟨q1, q2, q3, q4, q5, q6, h⟩ := h
            refine g_copyb X hK.1 tw_577 tw_351 tw_350 tw_11 ly_21 ly_18 q1 q2 q3 q4 q5 q6 (Nat.le_of_ble_eq_true rfl) (Nat.le_of_ble_eq_true rfl) dFB_copyIn_42 ?_
            refine g_topM (fun M1 eM1 => ?_)
            have h := h M1 eM1
            exact g_vret X hr hlk dFB_copyIn_45 ⟨rfl, h⟩
set_option maxRecDepth 100000 in
set_option maxHeartbeats 4000000 in
theorem m_FB_copyIn_23 {l : Launch} {D : va_G} {ta : Nat → ClassId} {base : Nat} {sa : Nat → Nat} {post : gMem → Prop} {a1 : Int32} {a2 : Int32} {a3 : Int32} {M : gMem} (h : wp_FB_copyIn_23 post a1 a2 a3 M) : GC gLay gCl D ta base gNw sa gTabs gTs l y_FB_copyIn b_FB_copyIn 5 none 1 18 [.ref (base + 17), .ref (base + 23), .int a1, .int a2, .int a3] M (gPv post) := by
  refine GC.of (own := "ObjectFile$FileBytes") pn_FB rfl (Nat.le_of_ble_eq_true rfl) ?_
  intro p e s m below meth c X hK hr hlk
  refine g_args (L' := [(0, .ref (base + 17)), (1, .ref (base + 23)), (2, .int a1), (3, .int a2), (4, .int a3)]) rfl ?_
  unfold wp_FB_copyIn_23 at h
  refine g_iload X dFB_copyIn_0 4 rfl ?_
  refine g_if_le X dFB_copyIn_2 (fun c => ?_) (fun c => ?_)
  · have h := h.1 c
    exact g_vret X hr hlk dFB_copyIn_45 ⟨rfl, h⟩
  · have h := h.2 c
    refine g_iload_n X dFB_copyIn_5 rfl 2 rfl ?_
    refine g_if_lt X dFB_copyIn_6 (fun c => ?_) (fun c => ?_)
    · have h := h.1 c
      exact g_vret X hr hlk dFB_copyIn_45 ⟨rfl, h⟩
    · have h := h.2 c
      refine g_iload_n X dFB_copyIn_9 rfl 2 rfl ?_
      refine g_aload_n X dFB_copyIn_10 rfl 1 rfl ?_
      refine g_alen X hK.1 ly_23 (by decide) (v := (1701 : Int32)) (by decide) dFB_copyIn_11 ?_
      refine g_iload X dFB_copyIn_12 4 rfl ?_
      refine g_isub X dFB_copyIn_14 ?_
      refine g_icmp_gt X dFB_copyIn_15 (fun c => ?_) (fun c => ?_)
      · have h := h.1 c
        exact g_vret X hr hlk dFB_copyIn_45 ⟨rfl, h⟩
      · have h := h.2 c
        refine g_iload_n X dFB_copyIn_18 rfl 3 rfl ?_
        refine g_if_lt X dFB_copyIn_19 (fun c => ?_) (fun c => ?_)
        · have h := h.1 c
          exact g_vret X hr hlk dFB_copyIn_45 ⟨rfl, h⟩
        · have h := h.2 c
          refine g_iload_n X dFB_copyIn_22 rfl 3 rfl ?_
          refine g_aload_n X dFB_copyIn_23 rfl 0 rfl ?_
          refine g_geti X hK.1 fw_FB_15 ly_17 rfl dFB_copyIn_24 ?_
          refine g_iload X dFB_copyIn_27 4 rfl ?_
          refine g_isub X dFB_copyIn_29 ?_
          refine g_icmp_gt X dFB_copyIn_30 (fun c => ?_) (fun c => ?_)
          · have h := h.1 c
            exact g_vret X hr hlk dFB_copyIn_45 ⟨rfl, h⟩
          · have h := h.2 c
            refine g_aload_n X dFB_copyIn_33 rfl 1 rfl ?_
            refine g_iload_n X dFB_copyIn_34 rfl 2 rfl ?_
            refine g_aload_n X dFB_copyIn_35 rfl 0 rfl ?_
            refine g_getr X hK.1 fw_FB_9 ly_17 rfl dFB_copyIn_36 ?_
            refine g_iload_n X dFB_copyIn_39 rfl 3 rfl ?_
            refine g_iload X dFB_copyIn_40 4 rfl ?_
            obtain ⟨q1, q2, q3, q4, q5, q6, h⟩ := h
            refine g_copyb X hK.1 tw_577 tw_351 tw_350 tw_11 ly_23 ly_18 q1 q2 q3 q4 q5 q6 (Nat.le_of_ble_eq_true rfl) (Nat.le_of_ble_eq_true rfl) dFB_copyIn_42 ?_
            refine g_topM (fun M1 eM1 => ?_)
            have h := h M1 eM1
            exact g_vret X hr hlk dFB_copyIn_45 ⟨rfl, h⟩
set_option maxRecDepth 100000 in
set_option maxHeartbeats 4000000 in
theorem m_WR_whereInFile {l : Launch} {D : va_G} {ta : Nat → ClassId} {base : Nat} {sa : Nat → Nat} {post : Int32 → gMem → Prop} {a0 : Int32} {M : gMem} (h : wp_WR_whereInFile post a0 M) : GC gLay gCl D ta base gNw sa gTabs gTs l y_WR_whereInFile b_WR_whereInFile 2 (some .int) 0 0 [.ref (base + 19), .int a0] M (gPi post) := by
  refine GC.of (own := "ObjectFile$Writer") pn_WR rfl (Nat.le_of_ble_eq_true rfl) ?_
  intro p e s m below meth c X hK hr hlk
  refine g_args (L' := [(0, .ref (base + 19)), (1, .int a0)]) rfl ?_
  unfold wp_WR_whereInFile at h
  refine g_iload_n X dWR_whereInFile_0 rfl 1 rfl ?_
  refine g_lookup X (dt := 44) [((-1 : Int32), 36), ((4 : Int32), 38), ((5 : Int32), 41)] dWR_whereInFile_1.1 (by decide +kernel) (by decide +kernel) (by decide) ?_
  refine gSw_cons (fun c => ?_) (fun c => ?_)
  · have h := h.1 c
    refine g_iconst X (v := (0 : Int32)) dWR_whereInFile_36 (by decide) ?_
    exact g_iret X hr hlk dWR_whereInFile_37 ⟨_, rfl, h⟩
  · have h := h.2 c
    refine gSw_cons (fun c => ?_) (fun c => ?_)
    · have h := h.1 c
      refine g_ldc X (v := (65521 : Int32)) (tw_592) dWR_whereInFile_38 ?_
      exact g_iret X hr hlk dWR_whereInFile_40 ⟨_, rfl, h⟩
    · have h := h.2 c
      refine gSw_cons (fun c => ?_) (fun c => ?_)
      · have h := h.1 c
        refine g_ldc X (v := (65522 : Int32)) (tw_593) dWR_whereInFile_41 ?_
        exact g_iret X hr hlk dWR_whereInFile_43 ⟨_, rfl, h⟩
      · have h := h.2 c
        refine gSw_nil ?_
        refine g_iload_n X dWR_whereInFile_44 rfl 1 rfl ?_
        refine g_if_lt X dWR_whereInFile_45 (fun c => ?_) (fun c => ?_)
        · have h := h.1 c
          refine g_iconst X (v := (0 : Int32)) dWR_whereInFile_62 (by decide) ?_
          exact g_iret X hr hlk dWR_whereInFile_63 ⟨_, rfl, h⟩
        · have h := h.2 c
          refine g_iload_n X dWR_whereInFile_48 rfl 1 rfl ?_
          refine g_iconst X (v := (3 : Int32)) dWR_whereInFile_49 (by decide) ?_
          refine g_icmp_gt X dWR_whereInFile_50 (fun c => ?_) (fun c => ?_)
          · have h := h.1 c
            refine g_iconst X (v := (0 : Int32)) dWR_whereInFile_62 (by decide) ?_
            exact g_iret X hr hlk dWR_whereInFile_63 ⟨_, rfl, h⟩
          · have h := h.2 c
            refine g_aload_n X dWR_whereInFile_53 rfl 0 rfl ?_
            refine g_getr X hK.1 fw_WR_25 ly_19 rfl dWR_whereInFile_54 ?_
            refine g_iload_n X dWR_whereInFile_57 rfl 1 rfl ?_
            obtain ⟨hi, h⟩ := h
            refine g_iald X hK.1 ly_25 hi dWR_whereInFile_58 ?_
            refine g_goto X dWR_whereInFile_59 ?_
            exact g_iret X hr hlk dWR_whereInFile_63 ⟨_, rfl, h⟩
set_option maxRecDepth 100000 in
set_option maxHeartbeats 4000000 in
theorem m_WR_putSymbol {l : Launch} {D : va_G} {ta : Nat → ClassId} {base : Nat} {sa : Nat → Nat} {post : gMem → Prop} {a0 : Int32} {M : gMem} (h : wp_WR_putSymbol post a0 M) : GC gLay gCl D ta base gNw sa gTabs gTs l y_WR_putSymbol b_WR_putSymbol 4 none 1 22 [.ref (base + 19), .int a0] M (gPv post) := by
  refine GC.of (own := "ObjectFile$Writer") pn_WR rfl (Nat.le_of_ble_eq_true rfl) ?_
  intro p e s m below meth c X hK hr hlk
  refine g_args (L' := [(0, .ref (base + 19)), (1, .int a0)]) rfl ?_
  unfold wp_WR_putSymbol at h
  refine g_aload_n X dWR_putSymbol_0 rfl 0 rfl ?_
  refine g_getr X hK.1 fw_WR_32 ly_19 rfl dWR_putSymbol_1 ?_
  refine g_bipush X (v := (8 : Int32)) dWR_putSymbol_4 (by decide) ?_
  obtain ⟨hi, h⟩ := h
  refine g_iald X hK.1 ly_27 hi dWR_putSymbol_6 ?_
  refine g_bipush X (v := (16 : Int32)) dWR_putSymbol_7 (by decide) ?_
  refine g_iload_n X dWR_putSymbol_9 rfl 1 rfl ?_
  refine g_iconst X (v := (1 : Int32)) dWR_putSymbol_10 (by decide) ?_
  refine g_iadd X dWR_putSymbol_11 ?_
  refine g_imul X dWR_putSymbol_12 ?_
  refine g_iadd X dWR_putSymbol_13 ?_
  refine g_topi (fun x1 ex1 => ?_)
  have h := h x1 ex1
  refine g_istore_n X (L' := [(2, .int x1), (0, .ref (base + 19)), (1, .int a0)]) dWR_putSymbol_14 rfl (Nat.le_of_ble_eq_true rfl) rfl ?_
  refine g_aload_n X dWR_putSymbol_15 rfl 1 rfl ?_
  refine g_getr X hK.1 fw_WR_38 ly_19 rfl dWR_putSymbol_16 ?_
  refine g_iload_n X dWR_putSymbol_19 rfl 2 rfl ?_
  obtain ⟨hi, h⟩ := h
  refine g_iald X hK.1 ly_29 hi dWR_putSymbol_20 ?_
  refine g_topi (fun x2 ex2 => ?_)
  have h := h x2 ex2
  refine g_istore_n X (L' := [(3, .int x2), (2, .int x1), (0, .ref (base + 19)), (1, .int a0)]) dWR_putSymbol_21 rfl (Nat.le_of_ble_eq_true rfl) rfl ?_
  refine g_aload_n X dWR_putSymbol_22 rfl 2 rfl ?_
  refine g_getr X hK.1 fw_WR_51 ly_19 rfl dWR_putSymbol_23 ?_
  refine g_iload_n X dWR_putSymbol_26 rfl 1 rfl ?_
  refine g_aload_n X dWR_putSymbol_27 rfl 2 rfl ?_
  refine g_getr X hK.1 fw_WR_44 ly_19 rfl dWR_putSymbol_28 ?_
  refine g_iload_n X dWR_putSymbol_31 rfl 3 rfl ?_
  obtain ⟨hi, h⟩ := h
  refine g_iald X hK.1 ly_31 hi dWR_putSymbol_32 ?_
  refine g_callVN X hK gTs_ok ly_17 rfl mw_FB_put4 nw_554 mi_FB_put4 ms_FB_put4 (As := [.int x1, .int (M 31 (a0).toNatClampNeg)]) rfl ⟨(Nat.le_of_ble_eq_true rfl), (Nat.le_of_ble_eq_true rfl), Nat.le_refl _, Nat.le_refl _⟩ (m_FB_put4 h) (rest := []) rfl (Nat.le_of_ble_eq_true rfl) dWR_putSymbol_33 (gk_v (fun M4 h => ?_))
  refine g_aload_n X dWR_putSymbol_36 rfl 2 rfl ?_
  refine g_getr X hK.1 fw_WR_51 ly_19 rfl dWR_putSymbol_37 ?_
  refine g_iload_n X dWR_putSymbol_40 rfl 1 rfl ?_
  refine g_iconst X (v := (4 : Int32)) dWR_putSymbol_41 (by decide) ?_
  refine g_iadd X dWR_putSymbol_42 ?_
  refine g_aload_n X dWR_putSymbol_43 rfl 2 rfl ?_
  refine g_getr X hK.1 fw_WR_47 ly_19 rfl dWR_putSymbol_44 ?_
  refine g_iload_n X dWR_putSymbol_47 rfl 0 rfl ?_
  refine g_iconst X (v := (1 : Int32)) dWR_putSymbol_48 (by decide) ?_
  refine g_callVN X hK gTs_ok ly_1 rfl mw_CT_symbolFact nw_406 mi_CT_symbolFact ms_CT_symbolFact (As := [.int x2, .int (1 : Int32)]) rfl ⟨(Nat.le_of_ble_eq_true rfl), (Nat.le_of_ble_eq_true rfl), Nat.le_refl _, Nat.le_refl _⟩ (m_CT_symbolFact_m h) (rest := [.int (x1 + (4 : Int32)), .ref (base + 17)]) rfl (Nat.le_of_ble_eq_true rfl) dWR_putSymbol_49 (gk_i (fun r5 M6 h => ?_))
  refine g_callVN X hK gTs_ok ly_17 rfl mw_FB_put4 nw_554 mi_FB_put4 ms_FB_put4 (As := [.int (x1 + (4 : Int32)), .int r5]) rfl ⟨(Nat.le_of_ble_eq_true rfl), (Nat.le_of_ble_eq_true rfl), Nat.le_refl _, Nat.le_refl _⟩ (m_FB_put4 h) (rest := []) rfl (Nat.le_of_ble_eq_true rfl) dWR_putSymbol_52 (gk_v (fun M8 h => ?_))
  refine g_aload_n X dWR_putSymbol_55 rfl 2 rfl ?_
  refine g_getr X hK.1 fw_WR_51 ly_19 rfl dWR_putSymbol_56 ?_
  refine g_iload_n X dWR_putSymbol_59 rfl 1 rfl ?_
  refine g_bipush X (v := (8 : Int32)) dWR_putSymbol_60 (by decide) ?_
  refine g_iadd X dWR_putSymbol_62 ?_
  refine g_aload_n X dWR_putSymbol_63 rfl 2 rfl ?_
  refine g_getr X hK.1 fw_WR_47 ly_19 rfl dWR_putSymbol_64 ?_
  refine g_iload_n X dWR_putSymbol_67 rfl 0 rfl ?_
  refine g_iconst X (v := (2 : Int32)) dWR_putSymbol_68 (by decide) ?_
  refine g_callVN X hK gTs_ok ly_1 rfl mw_CT_symbolFact nw_406 mi_CT_symbolFact ms_CT_symbolFact (As := [.int x2, .int (2 : Int32)]) rfl ⟨(Nat.le_of_ble_eq_true rfl), (Nat.le_of_ble_eq_true rfl), Nat.le_refl _, Nat.le_refl _⟩ (m_CT_symbolFact_m h) (rest := [.int (x1 + (8 : Int32)), .ref (base + 17)]) rfl (Nat.le_of_ble_eq_true rfl) dWR_putSymbol_69 (gk_i (fun r9 M10 h => ?_))
  refine g_callVN X hK gTs_ok ly_17 rfl mw_FB_put4 nw_554 mi_FB_put4 ms_FB_put4 (As := [.int (x1 + (8 : Int32)), .int r9]) rfl ⟨(Nat.le_of_ble_eq_true rfl), (Nat.le_of_ble_eq_true rfl), Nat.le_refl _, Nat.le_refl _⟩ (m_FB_put4 h) (rest := []) rfl (Nat.le_of_ble_eq_true rfl) dWR_putSymbol_72 (gk_v (fun M12 h => ?_))
  refine g_aload_n X dWR_putSymbol_75 rfl 2 rfl ?_
  refine g_getr X hK.1 fw_WR_51 ly_19 rfl dWR_putSymbol_76 ?_
  refine g_iload_n X dWR_putSymbol_79 rfl 1 rfl ?_
  refine g_bipush X (v := (12 : Int32)) dWR_putSymbol_80 (by decide) ?_
  refine g_iadd X dWR_putSymbol_82 ?_
  refine g_bipush X (v := (16 : Int32)) dWR_putSymbol_83 (by decide) ?_
  refine g_aload_n X dWR_putSymbol_85 rfl 2 rfl ?_
  refine g_getr X hK.1 fw_WR_47 ly_19 rfl dWR_putSymbol_86 ?_
  refine g_iload_n X dWR_putSymbol_89 rfl 0 rfl ?_
  refine g_iconst X (v := (3 : Int32)) dWR_putSymbol_90 (by decide) ?_
  refine g_callVN X hK gTs_ok ly_1 rfl mw_CT_symbolFact nw_406 mi_CT_symbolFact ms_CT_symbolFact (As := [.int x2, .int (3 : Int32)]) rfl ⟨(Nat.le_of_ble_eq_true rfl), (Nat.le_of_ble_eq_true rfl), Nat.le_refl _, Nat.le_refl _⟩ (m_CT_symbolFact_m h) (rest := [.int (16 : Int32), .int (x1 + (12 : Int32)), .ref (base + 17)]) rfl (Nat.le_of_ble_eq_true rfl) dWR_putSymbol_91 (gk_i (fun r13 M14 h => ?_))
  refine g_imul X dWR_putSymbol_94 ?_
  refine g_aload_n X dWR_putSymbol_95 rfl 2 rfl ?_
  refine g_getr X hK.1 fw_WR_47 ly_19 rfl dWR_putSymbol_96 ?_
  refine g_iload_n X dWR_putSymbol_99 rfl 0 rfl ?_
  refine g_iconst X (v := (4 : Int32)) dWR_putSymbol_100 (by decide) ?_
  refine g_callVN X hK gTs_ok ly_1 rfl mw_CT_symbolFact nw_406 mi_CT_symbolFact ms_CT_symbolFact (As := [.int x2, .int (4 : Int32)]) rfl ⟨(Nat.le_of_ble_eq_true rfl), (Nat.le_of_ble_eq_true rfl), Nat.le_refl _, Nat.le_refl _⟩ (m_CT_symbolFact_m h) (rest := [.int ((16 : Int32) * r13), .int (x1 + (12 : Int32)), .ref (base + 17)]) rfl (Nat.le_of_ble_eq_true rfl) dWR_putSymbol_101 (gk_i (fun r15 M16 h => ?_))
  refine g_iadd X dWR_putSymbol_104 ?_
  refine g_callVN X hK gTs_ok ly_17 rfl mw_FB_put1 nw_546 mi_FB_put1 ms_FB_put1 (As := [.int (x1 + (12 : Int32)), .int (((16 : Int32) * r13) + r15)]) rfl ⟨(Nat.le_of_ble_eq_true rfl), (Nat.le_of_ble_eq_true rfl), Nat.le_refl _, Nat.le_refl _⟩ (m_FB_put1 h) (rest := []) rfl (Nat.le_of_ble_eq_true rfl) dWR_putSymbol_105 (gk_v (fun M18 h => ?_))
  refine g_aload_n X dWR_putSymbol_108 rfl 2 rfl ?_
  refine g_getr X hK.1 fw_WR_51 ly_19 rfl dWR_putSymbol_109 ?_
  refine g_iload_n X dWR_putSymbol_112 rfl 1 rfl ?_
  refine g_bipush X (v := (14 : Int32)) dWR_putSymbol_113 (by decide) ?_
  refine g_iadd X dWR_putSymbol_115 ?_
  refine g_aload_n X dWR_putSymbol_116 rfl 2 rfl ?_
  refine g_aload_n X dWR_putSymbol_117 rfl 2 rfl ?_
  refine g_getr X hK.1 fw_WR_47 ly_19 rfl dWR_putSymbol_118 ?_
  refine g_iload_n X dWR_putSymbol_121 rfl 0 rfl ?_
  refine g_iconst X (v := (0 : Int32)) dWR_putSymbol_122 (by decide) ?_
  refine g_callVN X hK gTs_ok ly_1 rfl mw_CT_symbolFact nw_406 mi_CT_symbolFact ms_CT_symbolFact (As := [.int x2, .int (0 : Int32)]) rfl ⟨(Nat.le_of_ble_eq_true rfl), (Nat.le_of_ble_eq_true rfl), Nat.le_refl _, Nat.le_refl _⟩ (m_CT_symbolFact_m h) (rest := [.ref (base + 19), .int (x1 + (14 : Int32)), .ref (base + 17)]) rfl (Nat.le_of_ble_eq_true rfl) dWR_putSymbol_123 (gk_i (fun r19 M20 h => ?_))
  refine g_callV X hK gTs_ok ly_19 rfl mw_WR_whereInFile tw_588 mi_WR_whereInFile ms_WR_whereInFile (As := [.int r19]) rfl ⟨(Nat.le_of_ble_eq_true rfl), (Nat.le_of_ble_eq_true rfl), Nat.le_refl _, Nat.le_refl _⟩ (m_WR_whereInFile h) (rest := [.int (x1 + (14 : Int32)), .ref (base + 17)]) rfl (Nat.le_of_ble_eq_true rfl) dWR_putSymbol_126 (gk_i (fun r21 M22 h => ?_))
  refine g_callVN X hK gTs_ok ly_17 rfl mw_FB_put2 nw_550 mi_FB_put2 ms_FB_put2 (As := [.int (x1 + (14 : Int32)), .int r21]) rfl ⟨(Nat.le_of_ble_eq_true rfl), (Nat.le_of_ble_eq_true rfl), Nat.le_refl _, Nat.le_refl _⟩ (m_FB_put2 h) (rest := []) rfl (Nat.le_of_ble_eq_true rfl) dWR_putSymbol_129 (gk_v (fun M24 h => ?_))
  exact g_vret X hr hlk dWR_putSymbol_132 ⟨rfl, h⟩
set_option maxRecDepth 100000 in
set_option maxHeartbeats 4000000 in
theorem m_WR_putRelocations {l : Launch} {D : va_G} {ta : Nat → ClassId} {base : Nat} {sa : Nat → Nat} {post : gMem → Prop} {a0 : Int32} {M : gMem} (h : wp_WR_putRelocations post a0 M) : GC gLay gCl D ta base gNw sa gTabs gTs l y_WR_putRelocations b_WR_putRelocations 6 none 1 22 [.ref (base + 19), .int a0] M (gPv post) := by
  refine GC.of (own := "ObjectFile$Writer") pn_WR rfl (Nat.le_of_ble_eq_true rfl) ?_
  intro p e s m below meth c X hK hr hlk
  have r_69 : ∀ (k11 : Int32 → Int32 → Int32 → gMem → Prop) (hk11 : ∀ (v1 : Int32) (v2 : Int32) (v3 : Int32) (M : gMem), k11 v1 v2 v3 M → GMx D ta base p l e 1 22 s m [.ref (base + 19), .int a0] below meth c (gPv post) 6 11 [(0, .ref (base + 19)), (1, .int v1), (2, .int v2), (3, .int v3)] [] M) (v1 : Int32) (v2 : Int32) (v3 : Int32) (s0 : Int32) (M : gMem), wj_WR_putRelocations_69 post k11 v1 v2 v3 s0 M → GMx D ta base p l e 1 22 s m [.ref (base + 19), .int a0] below meth c (gPv post) 6 69 [(0, .ref (base + 19)), (1, .int v1), (2, .int v2), (3, .int v3)] [.int s0] M := by
    intro k11 hk11 v1 v2 v3 s0 M h
    unfold wj_WR_putRelocations_69 at h
    refine g_istore X (L' := [(5, .int s0), (0, .ref (base + 19)), (1, .int v1), (2, .int v2), (3, .int v3)]) dWR_putRelocations_69 (Nat.le_of_ble_eq_true rfl) rfl ?_
    refine g_aload_n X dWR_putRelocations_71 rfl 1 rfl ?_
    refine g_getr X hK.1 fw_WR_51 ly_19 rfl dWR_putRelocations_72 ?_
    refine g_iload_n X dWR_putRelocations_75 rfl 3 rfl ?_
    refine g_aload_n X dWR_putRelocations_76 rfl 1 rfl ?_
    refine g_getr X hK.1 fw_WR_47 ly_19 rfl dWR_putRelocations_77 ?_
    refine g_iload_n X dWR_putRelocations_80 rfl 4 rfl ?_
    refine g_iconst X (v := (1 : Int32)) dWR_putRelocations_81 (by decide) ?_
    refine g_callVN X hK gTs_ok ly_1 rfl mw_CT_relocationFact nw_583 mi_CT_relocationFact ms_CT_relocationFact (As := [.int v3, .int (1 : Int32)]) rfl ⟨(Nat.le_of_ble_eq_true rfl), (Nat.le_of_ble_eq_true rfl), Nat.le_refl _, Nat.le_refl _⟩ (m_CT_relocationFact_m h) (rest := [.int v2, .ref (base + 17)]) rfl (Nat.le_of_ble_eq_true rfl) dWR_putRelocations_82 (gk_i (fun r7 M8 h => ?_))
    refine g_callVN X hK gTs_ok ly_17 rfl mw_FB_put4 nw_554 mi_FB_put4 ms_FB_put4 (As := [.int v2, .int r7]) rfl ⟨(Nat.le_of_ble_eq_true rfl), (Nat.le_of_ble_eq_true rfl), Nat.le_refl _, Nat.le_refl _⟩ (m_FB_put4 h) (rest := []) rfl (Nat.le_of_ble_eq_true rfl) dWR_putRelocations_85 (gk_v (fun M10 h => ?_))
    refine g_aload_n X dWR_putRelocations_88 rfl 1 rfl ?_
    refine g_getr X hK.1 fw_WR_51 ly_19 rfl dWR_putRelocations_89 ?_
    refine g_iload_n X dWR_putRelocations_92 rfl 3 rfl ?_
    refine g_iconst X (v := (4 : Int32)) dWR_putRelocations_93 (by decide) ?_
    refine g_iadd X dWR_putRelocations_94 ?_
    refine g_sipush X (v := (256 : Int32)) dWR_putRelocations_95 (by decide) ?_
    refine g_iload X dWR_putRelocations_98 0 rfl ?_
    refine g_imul X dWR_putRelocations_100 ?_
    refine g_aload_n X dWR_putRelocations_101 rfl 1 rfl ?_
    refine g_getr X hK.1 fw_WR_47 ly_19 rfl dWR_putRelocations_102 ?_
    refine g_iload_n X dWR_putRelocations_105 rfl 4 rfl ?_
    refine g_iconst X (v := (2 : Int32)) dWR_putRelocations_106 (by decide) ?_
    refine g_callVN X hK gTs_ok ly_1 rfl mw_CT_relocationFact nw_583 mi_CT_relocationFact ms_CT_relocationFact (As := [.int v3, .int (2 : Int32)]) rfl ⟨(Nat.le_of_ble_eq_true rfl), (Nat.le_of_ble_eq_true rfl), Nat.le_refl _, Nat.le_refl _⟩ (m_CT_relocationFact_m h) (rest := [.int ((256 : Int32) * s0), .int (v2 + (4 : Int32)), .ref (base + 17)]) rfl (Nat.le_of_ble_eq_true rfl) dWR_putRelocations_107 (gk_i (fun r11 M12 h => ?_))
    refine g_iadd X dWR_putRelocations_110 ?_
    refine g_callVN X hK gTs_ok ly_17 rfl mw_FB_put4 nw_554 mi_FB_put4 ms_FB_put4 (As := [.int (v2 + (4 : Int32)), .int (((256 : Int32) * s0) + r11)]) rfl ⟨(Nat.le_of_ble_eq_true rfl), (Nat.le_of_ble_eq_true rfl), Nat.le_refl _, Nat.le_refl _⟩ (m_FB_put4 h) (rest := []) rfl (Nat.le_of_ble_eq_true rfl) dWR_putRelocations_111 (gk_v (fun M14 h => ?_))
    refine g_aload_n X dWR_putRelocations_114 rfl 1 rfl ?_
    refine g_getr X hK.1 fw_WR_51 ly_19 rfl dWR_putRelocations_115 ?_
    refine g_iload_n X dWR_putRelocations_118 rfl 3 rfl ?_
    refine g_bipush X (v := (8 : Int32)) dWR_putRelocations_119 (by decide) ?_
    refine g_iadd X dWR_putRelocations_121 ?_
    refine g_aload_n X dWR_putRelocations_122 rfl 1 rfl ?_
    refine g_getr X hK.1 fw_WR_47 ly_19 rfl dWR_putRelocations_123 ?_
    refine g_iload_n X dWR_putRelocations_126 rfl 4 rfl ?_
    refine g_iconst X (v := (4 : Int32)) dWR_putRelocations_127 (by decide) ?_
    refine g_callVN X hK gTs_ok ly_1 rfl mw_CT_relocationFact nw_583 mi_CT_relocationFact ms_CT_relocationFact (As := [.int v3, .int (4 : Int32)]) rfl ⟨(Nat.le_of_ble_eq_true rfl), (Nat.le_of_ble_eq_true rfl), Nat.le_refl _, Nat.le_refl _⟩ (m_CT_relocationFact_m h) (rest := [.int (v2 + (8 : Int32)), .ref (base + 17)]) rfl (Nat.le_of_ble_eq_true rfl) dWR_putRelocations_128 (gk_i (fun r15 M16 h => ?_))
    refine g_callVN X hK gTs_ok ly_17 rfl mw_FB_put4 nw_554 mi_FB_put4 ms_FB_put4 (As := [.int (v2 + (8 : Int32)), .int r15]) rfl ⟨(Nat.le_of_ble_eq_true rfl), (Nat.le_of_ble_eq_true rfl), Nat.le_refl _, Nat.le_refl _⟩ (m_FB_put4 h) (rest := []) rfl (Nat.le_of_ble_eq_true rfl) dWR_putRelocations_131 (gk_v (fun M18 h => ?_))
    obtain ⟨x19, ex19⟩ : ∃ z : Int32, z = v2 + (12 : Int32) := ⟨_, rfl⟩
    have h := h x19 ex19
    refine g_iinc X (L' := [(2, .int x19), (5, .int s0), (0, .ref (base + 19)), (1, .int v1), (3, .int v3)]) (k := 3) dWR_putRelocations_134 rfl (v := x19) (by rw [ex19]; rfl) (Nat.le_of_ble_eq_true rfl) rfl ?_
    obtain ⟨x20, ex20⟩ : ∃ z : Int32, z = v3 + (1 : Int32) := ⟨_, rfl⟩
    have h := h x20 ex20
    refine g_iinc X (L' := [(3, .int x20), (2, .int x19), (5, .int s0), (0, .ref (base + 19)), (1, .int v1)]) (k := 4) dWR_putRelocations_137 rfl (v := x20) (by rw [ex20]; rfl) (Nat.le_of_ble_eq_true rfl) rfl ?_
    refine g_goto X dWR_putRelocations_140 ?_
    refine g_sub (L' := [(0, .ref (base + 19)), (1, .int v1), (2, .int x19), (3, .int x20)]) [3, 4, 1, 0] rfl ?_
    exact hk11 v1 x19 x20 M18 h
  have r_58 : ∀ (k11 : Int32 → Int32 → Int32 → gMem → Prop) (hk11 : ∀ (v1 : Int32) (v2 : Int32) (v3 : Int32) (M : gMem), k11 v1 v2 v3 M → GMx D ta base p l e 1 22 s m [.ref (base + 19), .int a0] below meth c (gPv post) 6 11 [(0, .ref (base + 19)), (1, .int v1), (2, .int v2), (3, .int v3)] [] M) (v1 : Int32) (v2 : Int32) (v3 : Int32) (M : gMem), wj_WR_putRelocations_58 post k11 v1 v2 v3 M → GMx D ta base p l e 1 22 s m [.ref (base + 19), .int a0] below meth c (gPv post) 6 58 [(0, .ref (base + 19)), (1, .int v1), (2, .int v2), (3, .int v3)] [] M := by
    intro k11 hk11 v1 v2 v3 M h
    unfold wj_WR_putRelocations_58 at h
    refine g_iconst X (v := (0 : Int32)) dWR_putRelocations_58 (by decide) ?_
    refine g_goto X dWR_putRelocations_59 ?_
    exact r_69 _ hk11 v1 v2 v3 (0 : Int32) M h
  have r_11 : ∀ (n : Nat) (v1 : Int32) (v2 : Int32) (v3 : Int32) (M : gMem), wl_WR_putRelocations_11 post n v1 v2 v3 M → GMx D ta base p l e 1 22 s m [.ref (base + 19), .int a0] below meth c (gPv post) 6 11 [(0, .ref (base + 19)), (1, .int v1), (2, .int v2), (3, .int v3)] [] M := by
    intro n
    induction n with
    | zero => exact fun _ _ _ M h => h.elim
    | succ n ih =>
      intro v1 v2 v3 M h
      refine g_iload_n X dWR_putRelocations_11 rfl 3 rfl ?_
      refine g_aload_n X dWR_putRelocations_12 rfl 0 rfl ?_
      refine g_getr X hK.1 fw_WR_47 ly_19 rfl dWR_putRelocations_13 ?_
      refine g_getiN X hK.1 (gNw_of hK) fw_WR_211 ly_1 rfl dWR_putRelocations_16 ?_
      refine g_icmp_ge X dWR_putRelocations_19 (fun c => ?_) (fun c => ?_)
      · have h := h.1 c
        exact g_vret X hr hlk dWR_putRelocations_143 ⟨rfl, h⟩
      · have h := h.2 c
        refine g_aload_n X dWR_putRelocations_22 rfl 0 rfl ?_
        refine g_getr X hK.1 fw_WR_47 ly_19 rfl dWR_putRelocations_23 ?_
        refine g_iload_n X dWR_putRelocations_26 rfl 3 rfl ?_
        refine g_iconst X (v := (0 : Int32)) dWR_putRelocations_27 (by decide) ?_
        refine g_callVN X hK gTs_ok ly_1 rfl mw_CT_relocationFact nw_583 mi_CT_relocationFact ms_CT_relocationFact (As := [.int v3, .int (0 : Int32)]) rfl ⟨(Nat.le_of_ble_eq_true rfl), (Nat.le_of_ble_eq_true rfl), Nat.le_refl _, Nat.le_refl _⟩ (m_CT_relocationFact_m h) (rest := []) rfl (Nat.le_of_ble_eq_true rfl) dWR_putRelocations_28 (gk_i (fun r2 M3 h => ?_))
        refine g_iload_n X dWR_putRelocations_31 rfl 1 rfl ?_
        refine g_icmp_ne X dWR_putRelocations_32 (fun c => ?_) (fun c => ?_)
        · have h := h.1 c
          obtain ⟨x4, ex4⟩ : ∃ z : Int32, z = v3 + (1 : Int32) := ⟨_, rfl⟩
          have h := h x4 ex4
          refine g_iinc X (L' := [(3, .int x4), (0, .ref (base + 19)), (1, .int v1), (2, .int v2)]) (k := 3) dWR_putRelocations_137 rfl (v := x4) (by rw [ex4]; rfl) (Nat.le_of_ble_eq_true rfl) rfl ?_
          refine g_goto X dWR_putRelocations_140 ?_
          refine g_sub (L' := [(0, .ref (base + 19)), (1, .int v1), (2, .int v2), (3, .int x4)]) [1, 2, 3, 0] rfl ?_
          exact ih v1 v2 x4 M3 h
        · have h := h.2 c
          refine g_aload_n X dWR_putRelocations_35 rfl 0 rfl ?_
          refine g_getr X hK.1 fw_WR_47 ly_19 rfl dWR_putRelocations_36 ?_
          refine g_iload_n X dWR_putRelocations_39 rfl 3 rfl ?_
          refine g_iconst X (v := (3 : Int32)) dWR_putRelocations_40 (by decide) ?_
          refine g_callVN X hK gTs_ok ly_1 rfl mw_CT_relocationFact nw_583 mi_CT_relocationFact ms_CT_relocationFact (As := [.int v3, .int (3 : Int32)]) rfl ⟨(Nat.le_of_ble_eq_true rfl), (Nat.le_of_ble_eq_true rfl), Nat.le_refl _, Nat.le_refl _⟩ (m_CT_relocationFact_m h) (rest := []) rfl (Nat.le_of_ble_eq_true rfl) dWR_putRelocations_41 (gk_i (fun r5 M6 h => ?_))
          refine g_istore X (L' := [(4, .int r5), (0, .ref (base + 19)), (1, .int v1), (2, .int v2), (3, .int v3)]) dWR_putRelocations_44 (Nat.le_of_ble_eq_true rfl) rfl ?_
          refine g_iload X dWR_putRelocations_46 0 rfl ?_
          refine g_if_lt X dWR_putRelocations_48 (fun c => ?_) (fun c => ?_)
          · have h := h.1 c
            refine g_sub (L' := [(0, .ref (base + 19)), (1, .int v1), (2, .int v2), (3, .int v3)]) [1, 2, 3, 4] rfl ?_
            exact r_58 _ (ih) v1 v2 v3 M6 h
          · have h := h.2 c
            refine g_iload X dWR_putRelocations_51 0 rfl ?_
            refine g_bipush X (v := (100 : Int32)) dWR_putRelocations_53 (by decide) ?_
            refine g_icmp_lt X dWR_putRelocations_55 (fun c => ?_) (fun c => ?_)
            · have h := h.1 c
              refine g_aload_n X dWR_putRelocations_62 rfl 1 rfl ?_
              refine g_getr X hK.1 fw_WR_41 ly_19 rfl dWR_putRelocations_63 ?_
              refine g_iload X dWR_putRelocations_66 0 rfl ?_
              obtain ⟨hi, h⟩ := h
              refine g_iald X hK.1 ly_30 hi dWR_putRelocations_68 ?_
              refine g_sub (L' := [(0, .ref (base + 19)), (1, .int v1), (2, .int v2), (3, .int v3)]) [1, 2, 3, 4] rfl ?_
              exact r_69 _ (ih) v1 v2 v3 (M6 30 (r5).toNatClampNeg) M6 h
            · have h := h.2 c
              refine g_sub (L' := [(0, .ref (base + 19)), (1, .int v1), (2, .int v2), (3, .int v3)]) [1, 2, 3, 4] rfl ?_
              exact r_58 _ (ih) v1 v2 v3 M6 h
  refine g_args (L' := [(0, .ref (base + 19)), (1, .int a0)]) rfl ?_
  unfold wp_WR_putRelocations at h
  refine g_aload_n X dWR_putRelocations_0 rfl 0 rfl ?_
  refine g_getr X hK.1 fw_WR_32 ly_19 rfl dWR_putRelocations_1 ?_
  refine g_iconst X (v := (5 : Int32)) dWR_putRelocations_4 (by decide) ?_
  refine g_iload_n X dWR_putRelocations_5 rfl 1 rfl ?_
  refine g_iadd X dWR_putRelocations_6 ?_
  obtain ⟨hi, h⟩ := h
  refine g_iald X hK.1 ly_27 hi dWR_putRelocations_7 ?_
  refine g_topi (fun x1 ex1 => ?_)
  have h := h x1 ex1
  refine g_istore_n X (L' := [(2, .int x1), (0, .ref (base + 19)), (1, .int a0)]) dWR_putRelocations_8 rfl (Nat.le_of_ble_eq_true rfl) rfl ?_
  refine g_iconst X (v := (0 : Int32)) dWR_putRelocations_9 (by decide) ?_
  refine g_istore_n X (L' := [(3, .int (0 : Int32)), (2, .int x1), (0, .ref (base + 19)), (1, .int a0)]) dWR_putRelocations_10 rfl (Nat.le_of_ble_eq_true rfl) rfl ?_
  refine g_sub (L' := [(0, .ref (base + 19)), (1, .int a0), (2, .int x1), (3, .int (0 : Int32))]) [2, 3, 1, 0] rfl ?_
  obtain ⟨n9, h⟩ := h
  exact r_11 n9 a0 x1 (0 : Int32) M h
set_option maxRecDepth 100000 in
set_option maxHeartbeats 4000000 in
theorem m_FB_copyIn_2 {l : Launch} {D : va_G} {ta : Nat → ClassId} {base : Nat} {sa : Nat → Nat} {post : gMem → Prop} {a1 : Int32} {a2 : Int32} {a3 : Int32} {M : gMem} (h : wp_FB_copyIn_2 post a1 a2 a3 M) : GC gLay gCl D ta base gNw sa gTabs gTs l y_FB_copyIn b_FB_copyIn 5 none 1 18 [.ref (base + 17), .ref (base + 2), .int a1, .int a2, .int a3] M (gPv post) := by
  refine GC.of (own := "ObjectFile$FileBytes") pn_FB rfl (Nat.le_of_ble_eq_true rfl) ?_
  intro p e s m below meth c X hK hr hlk
  refine g_args (L' := [(0, .ref (base + 17)), (1, .ref (base + 2)), (2, .int a1), (3, .int a2), (4, .int a3)]) rfl ?_
  unfold wp_FB_copyIn_2 at h
  refine g_iload X dFB_copyIn_0 4 rfl ?_
  refine g_if_le X dFB_copyIn_2 (fun c => ?_) (fun c => ?_)
  · have h := h.1 c
    exact g_vret X hr hlk dFB_copyIn_45 ⟨rfl, h⟩
  · have h := h.2 c
    refine g_iload_n X dFB_copyIn_5 rfl 2 rfl ?_
    refine g_if_lt X dFB_copyIn_6 (fun c => ?_) (fun c => ?_)
    · have h := h.1 c
      exact g_vret X hr hlk dFB_copyIn_45 ⟨rfl, h⟩
    · have h := h.2 c
      refine g_iload_n X dFB_copyIn_9 rfl 2 rfl ?_
      refine g_aload_n X dFB_copyIn_10 rfl 1 rfl ?_
      refine g_alen X hK.1 ly_2 (by decide) (v := (6144 : Int32)) (by decide) dFB_copyIn_11 ?_
      refine g_iload X dFB_copyIn_12 4 rfl ?_
      refine g_isub X dFB_copyIn_14 ?_
      refine g_icmp_gt X dFB_copyIn_15 (fun c => ?_) (fun c => ?_)
      · have h := h.1 c
        exact g_vret X hr hlk dFB_copyIn_45 ⟨rfl, h⟩
      · have h := h.2 c
        refine g_iload_n X dFB_copyIn_18 rfl 3 rfl ?_
        refine g_if_lt X dFB_copyIn_19 (fun c => ?_) (fun c => ?_)
        · have h := h.1 c
          exact g_vret X hr hlk dFB_copyIn_45 ⟨rfl, h⟩
        · have h := h.2 c
          refine g_iload_n X dFB_copyIn_22 rfl 3 rfl ?_
          refine g_aload_n X dFB_copyIn_23 rfl 0 rfl ?_
          refine g_geti X hK.1 fw_FB_15 ly_17 rfl dFB_copyIn_24 ?_
          refine g_iload X dFB_copyIn_27 4 rfl ?_
          refine g_isub X dFB_copyIn_29 ?_
          refine g_icmp_gt X dFB_copyIn_30 (fun c => ?_) (fun c => ?_)
          · have h := h.1 c
            exact g_vret X hr hlk dFB_copyIn_45 ⟨rfl, h⟩
          · have h := h.2 c
            refine g_aload_n X dFB_copyIn_33 rfl 1 rfl ?_
            refine g_iload_n X dFB_copyIn_34 rfl 2 rfl ?_
            refine g_aload_n X dFB_copyIn_35 rfl 0 rfl ?_
            refine g_getr X hK.1 fw_FB_9 ly_17 rfl dFB_copyIn_36 ?_
            refine g_iload_n X dFB_copyIn_39 rfl 3 rfl ?_
            refine g_iload X dFB_copyIn_40 4 rfl ?_
            obtain ⟨q1, q2, q3, q4, q5, q6, h⟩ := h
            refine g_copyb X hK.1 tw_577 tw_351 tw_350 tw_11 ly_2 ly_18 q1 q2 q3 q4 q5 q6 (Nat.le_of_ble_eq_true rfl) (Nat.le_of_ble_eq_true rfl) dFB_copyIn_42 ?_
            refine g_topM (fun M1 eM1 => ?_)
            have h := h M1 eM1
            exact g_vret X hr hlk dFB_copyIn_45 ⟨rfl, h⟩
set_option maxRecDepth 100000 in
set_option maxHeartbeats 4000000 in
theorem m_WR_putParts {l : Launch} {D : va_G} {ta : Nat → ClassId} {base : Nat} {sa : Nat → Nat} {post : gMem → Prop} {M : gMem} (h : wp_WR_putParts post M) : GC gLay gCl D ta base gNw sa gTabs gTs l y_WR_putParts b_WR_putParts 2 none 2 47 [.ref (base + 19)] M (gPv post) := by
  refine GC.of (own := "ObjectFile$Writer") pn_WR rfl (Nat.le_of_ble_eq_true rfl) ?_
  intro p e s m below meth c X hK hr hlk
  have r_108 : ∀ (n : Nat) (v1 : Int32) (M : gMem), wl_WR_putParts_108 post n v1 M → GMx D ta base p l e 2 47 s m [.ref (base + 19)] below meth c (gPv post) 2 108 [(0, .ref (base + 19)), (1, .int v1)] [] M := by
    intro n
    induction n with
    | zero => exact fun _ M h => h.elim
    | succ n ih =>
      intro v1 M h
      refine g_iload_n X dWR_putParts_108 rfl 1 rfl ?_
      refine g_aload_n X dWR_putParts_109 rfl 0 rfl ?_
      refine g_getr X hK.1 fw_WR_47 ly_19 rfl dWR_putParts_110 ?_
      refine g_getiN X hK.1 (gNw_of hK) fw_WR_104 ly_1 rfl dWR_putParts_113 ?_
      refine g_icmp_ge X dWR_putParts_116 (fun c => ?_) (fun c => ?_)
      · have h := h.1 c
        refine g_aload_n X dWR_putParts_130 rfl 0 rfl ?_
        refine g_getr X hK.1 fw_WR_51 ly_19 rfl dWR_putParts_131 ?_
        refine g_aload_n X dWR_putParts_134 rfl 0 rfl ?_
        refine g_getr X hK.1 fw_WR_12 ly_19 rfl dWR_putParts_135 ?_
        refine g_getrN X hK.1 (gNw_of hK) fw_WR_208 ly_20 rfl dWR_putParts_138 ?_
        refine g_iconst X (v := (0 : Int32)) dWR_putParts_141 (by decide) ?_
        refine g_aload_n X dWR_putParts_142 rfl 0 rfl ?_
        refine g_getr X hK.1 fw_WR_32 ly_19 rfl dWR_putParts_143 ?_
        refine g_bipush X (v := (9 : Int32)) dWR_putParts_146 (by decide) ?_
        obtain ⟨hi, h⟩ := h
        refine g_iald X hK.1 ly_27 hi dWR_putParts_148 ?_
        refine g_aload_n X dWR_putParts_149 rfl 0 rfl ?_
        refine g_getr X hK.1 fw_WR_35 ly_19 rfl dWR_putParts_150 ?_
        refine g_bipush X (v := (9 : Int32)) dWR_putParts_153 (by decide) ?_
        obtain ⟨hi, h⟩ := h
        refine g_iald X hK.1 ly_28 hi dWR_putParts_155 ?_
        refine g_callVN X hK gTs_ok ly_17 rfl mw_FB_copyIn nw_573 mi_FB_copyIn ms_FB_copyIn (As := [.ref (base + 21), .int (0 : Int32), .int (M 27 ((9 : Int32)).toNatClampNeg), .int (M 28 ((9 : Int32)).toNatClampNeg)]) rfl ⟨(Nat.le_of_ble_eq_true rfl), (Nat.le_of_ble_eq_true rfl), Nat.le_refl _, Nat.le_refl _⟩ (m_FB_copyIn_21 h) (rest := []) rfl (Nat.le_of_ble_eq_true rfl) dWR_putParts_156 (gk_v (fun M2 h => ?_))
        refine g_aload_n X dWR_putParts_159 rfl 0 rfl ?_
        refine g_getr X hK.1 fw_WR_51 ly_19 rfl dWR_putParts_160 ?_
        refine g_aload_n X dWR_putParts_163 rfl 0 rfl ?_
        refine g_getr X hK.1 fw_WR_18 ly_19 rfl dWR_putParts_164 ?_
        refine g_getrN X hK.1 (gNw_of hK) fw_WR_208 ly_22 rfl dWR_putParts_167 ?_
        refine g_iconst X (v := (0 : Int32)) dWR_putParts_170 (by decide) ?_
        refine g_aload_n X dWR_putParts_171 rfl 0 rfl ?_
        refine g_getr X hK.1 fw_WR_32 ly_19 rfl dWR_putParts_172 ?_
        refine g_bipush X (v := (10 : Int32)) dWR_putParts_175 (by decide) ?_
        obtain ⟨hi, h⟩ := h
        refine g_iald X hK.1 ly_27 hi dWR_putParts_177 ?_
        refine g_aload_n X dWR_putParts_178 rfl 0 rfl ?_
        refine g_getr X hK.1 fw_WR_35 ly_19 rfl dWR_putParts_179 ?_
        refine g_bipush X (v := (10 : Int32)) dWR_putParts_182 (by decide) ?_
        obtain ⟨hi, h⟩ := h
        refine g_iald X hK.1 ly_28 hi dWR_putParts_184 ?_
        refine g_callVN X hK gTs_ok ly_17 rfl mw_FB_copyIn nw_573 mi_FB_copyIn ms_FB_copyIn (As := [.ref (base + 23), .int (0 : Int32), .int (M2 27 ((10 : Int32)).toNatClampNeg), .int (M2 28 ((10 : Int32)).toNatClampNeg)]) rfl ⟨(Nat.le_of_ble_eq_true rfl), (Nat.le_of_ble_eq_true rfl), Nat.le_refl _, Nat.le_refl _⟩ (m_FB_copyIn_23 h) (rest := []) rfl (Nat.le_of_ble_eq_true rfl) dWR_putParts_185 (gk_v (fun M4 h => ?_))
        exact g_vret X hr hlk dWR_putParts_188 ⟨rfl, h⟩
      · have h := h.2 c
        refine g_aload_n X dWR_putParts_119 rfl 0 rfl ?_
        refine g_iload_n X dWR_putParts_120 rfl 1 rfl ?_
        refine g_callV X hK gTs_ok ly_19 rfl mw_WR_putSymbol tw_584 mi_WR_putSymbol ms_WR_putSymbol (As := [.int v1]) rfl ⟨(Nat.le_of_ble_eq_true rfl), (Nat.le_of_ble_eq_true rfl), Nat.le_refl _, Nat.le_refl _⟩ (m_WR_putSymbol h) (rest := []) rfl (Nat.le_of_ble_eq_true rfl) dWR_putParts_121 (gk_v (fun M6 h => ?_))
        obtain ⟨x7, ex7⟩ : ∃ z : Int32, z = v1 + (1 : Int32) := ⟨_, rfl⟩
        have h := h x7 ex7
        refine g_iinc X (L' := [(1, .int x7), (0, .ref (base + 19))]) (k := 1) dWR_putParts_124 rfl (v := x7) (by rw [ex7]; rfl) (Nat.le_of_ble_eq_true rfl) rfl ?_
        refine g_goto X dWR_putParts_127 ?_
        refine g_sub (L' := [(0, .ref (base + 19)), (1, .int x7)]) [1, 0] rfl ?_
        exact ih x7 M6 h
  have r_90 : ∀ (n : Nat) (v1 : Int32) (M : gMem), wl_WR_putParts_90 post n v1 M → GMx D ta base p l e 2 47 s m [.ref (base + 19)] below meth c (gPv post) 2 90 [(0, .ref (base + 19)), (1, .int v1)] [] M := by
    intro n
    induction n with
    | zero => exact fun _ M h => h.elim
    | succ n ih =>
      intro v1 M h
      refine g_iload_n X dWR_putParts_90 rfl 1 rfl ?_
      refine g_iconst X (v := (2 : Int32)) dWR_putParts_91 (by decide) ?_
      refine g_icmp_gt X dWR_putParts_92 (fun c => ?_) (fun c => ?_)
      · have h := h.1 c
        refine g_iconst X (v := (0 : Int32)) dWR_putParts_106 (by decide) ?_
        refine g_istore_n X (L' := [(1, .int (0 : Int32)), (0, .ref (base + 19))]) dWR_putParts_107 rfl (Nat.le_of_ble_eq_true rfl) rfl ?_
        refine g_sub (L' := [(0, .ref (base + 19)), (1, .int (0 : Int32))]) [1, 0] rfl ?_
        obtain ⟨n9, h⟩ := h
        exact r_108 n9 (0 : Int32) M h
      · have h := h.2 c
        refine g_aload_n X dWR_putParts_95 rfl 0 rfl ?_
        refine g_iload_n X dWR_putParts_96 rfl 1 rfl ?_
        refine g_callV X hK gTs_ok ly_19 rfl mw_WR_putRelocations tw_579 mi_WR_putRelocations ms_WR_putRelocations (As := [.int v1]) rfl ⟨(Nat.le_of_ble_eq_true rfl), (Nat.le_of_ble_eq_true rfl), Nat.le_refl _, Nat.le_refl _⟩ (m_WR_putRelocations h) (rest := []) rfl (Nat.le_of_ble_eq_true rfl) dWR_putParts_97 (gk_v (fun M9 h => ?_))
        obtain ⟨x10, ex10⟩ : ∃ z : Int32, z = v1 + (1 : Int32) := ⟨_, rfl⟩
        have h := h x10 ex10
        refine g_iinc X (L' := [(1, .int x10), (0, .ref (base + 19))]) (k := 1) dWR_putParts_100 rfl (v := x10) (by rw [ex10]; rfl) (Nat.le_of_ble_eq_true rfl) rfl ?_
        refine g_goto X dWR_putParts_103 ?_
        refine g_sub (L' := [(0, .ref (base + 19)), (1, .int x10)]) [1, 0] rfl ?_
        exact ih x10 M9 h
  have r_46 : ∀ (n : Nat) (v1 : Int32) (M : gMem), wl_WR_putParts_46 post n v1 M → GMx D ta base p l e 2 47 s m [.ref (base + 19)] below meth c (gPv post) 2 46 [(0, .ref (base + 19)), (1, .int v1)] [] M := by
    intro n
    induction n with
    | zero => exact fun _ M h => h.elim
    | succ n ih =>
      intro v1 M h
      refine g_iload_n X dWR_putParts_46 rfl 1 rfl ?_
      refine g_aload_n X dWR_putParts_47 rfl 0 rfl ?_
      refine g_getr X hK.1 fw_WR_47 ly_19 rfl dWR_putParts_48 ?_
      refine g_getiN X hK.1 (gNw_of hK) fw_WR_130 ly_1 rfl dWR_putParts_51 ?_
      refine g_icmp_ge X dWR_putParts_54 (fun c => ?_) (fun c => ?_)
      · have h := h.1 c
        refine g_iconst X (v := (0 : Int32)) dWR_putParts_88 (by decide) ?_
        refine g_istore_n X (L' := [(1, .int (0 : Int32)), (0, .ref (base + 19))]) dWR_putParts_89 rfl (Nat.le_of_ble_eq_true rfl) rfl ?_
        refine g_sub (L' := [(0, .ref (base + 19)), (1, .int (0 : Int32))]) [1, 0] rfl ?_
        obtain ⟨n9, h⟩ := h
        exact r_90 n9 (0 : Int32) M h
      · have h := h.2 c
        refine g_aload_n X dWR_putParts_57 rfl 0 rfl ?_
        refine g_getr X hK.1 fw_WR_51 ly_19 rfl dWR_putParts_58 ?_
        refine g_aload_n X dWR_putParts_61 rfl 0 rfl ?_
        refine g_getr X hK.1 fw_WR_32 ly_19 rfl dWR_putParts_62 ?_
        refine g_iconst X (v := (4 : Int32)) dWR_putParts_65 (by decide) ?_
        obtain ⟨hi, h⟩ := h
        refine g_iald X hK.1 ly_27 hi dWR_putParts_66 ?_
        refine g_iconst X (v := (2 : Int32)) dWR_putParts_67 (by decide) ?_
        refine g_iload_n X dWR_putParts_68 rfl 1 rfl ?_
        refine g_imul X dWR_putParts_69 ?_
        refine g_iadd X dWR_putParts_70 ?_
        refine g_aload_n X dWR_putParts_71 rfl 0 rfl ?_
        refine g_getr X hK.1 fw_WR_47 ly_19 rfl dWR_putParts_72 ?_
        refine g_iload_n X dWR_putParts_75 rfl 1 rfl ?_
        refine g_callVN X hK gTs_ok ly_1 rfl mw_CT_startOf nw_578 mi_CT_startOf ms_CT_startOf (As := [.int v1]) rfl ⟨(Nat.le_of_ble_eq_true rfl), (Nat.le_of_ble_eq_true rfl), Nat.le_refl _, Nat.le_refl _⟩ (m_CT_startOf_m h) (rest := [.int ((M 27 ((4 : Int32)).toNatClampNeg) + ((2 : Int32) * v1)), .ref (base + 17)]) rfl (Nat.le_of_ble_eq_true rfl) dWR_putParts_76 (gk_i (fun r11 M12 h => ?_))
        refine g_callVN X hK gTs_ok ly_17 rfl mw_FB_put2 nw_550 mi_FB_put2 ms_FB_put2 (As := [.int ((M 27 ((4 : Int32)).toNatClampNeg) + ((2 : Int32) * v1)), .int r11]) rfl ⟨(Nat.le_of_ble_eq_true rfl), (Nat.le_of_ble_eq_true rfl), Nat.le_refl _, Nat.le_refl _⟩ (m_FB_put2 h) (rest := []) rfl (Nat.le_of_ble_eq_true rfl) dWR_putParts_79 (gk_v (fun M14 h => ?_))
        obtain ⟨x15, ex15⟩ : ∃ z : Int32, z = v1 + (1 : Int32) := ⟨_, rfl⟩
        have h := h x15 ex15
        refine g_iinc X (L' := [(1, .int x15), (0, .ref (base + 19))]) (k := 1) dWR_putParts_82 rfl (v := x15) (by rw [ex15]; rfl) (Nat.le_of_ble_eq_true rfl) rfl ?_
        refine g_goto X dWR_putParts_85 ?_
        refine g_sub (L' := [(0, .ref (base + 19)), (1, .int x15)]) [1, 0] rfl ?_
        exact ih x15 M14 h
  have r_2 : ∀ (n : Nat) (v1 : Int32) (M : gMem), wl_WR_putParts_2 post n v1 M → GMx D ta base p l e 2 47 s m [.ref (base + 19)] below meth c (gPv post) 2 2 [(0, .ref (base + 19)), (1, .int v1)] [] M := by
    intro n
    induction n with
    | zero => exact fun _ M h => h.elim
    | succ n ih =>
      intro v1 M h
      refine g_iload_n X dWR_putParts_2 rfl 1 rfl ?_
      refine g_iconst X (v := (2 : Int32)) dWR_putParts_3 (by decide) ?_
      refine g_icmp_gt X dWR_putParts_4 (fun c => ?_) (fun c => ?_)
      · have h := h.1 c
        refine g_iconst X (v := (0 : Int32)) dWR_putParts_44 (by decide) ?_
        refine g_istore_n X (L' := [(1, .int (0 : Int32)), (0, .ref (base + 19))]) dWR_putParts_45 rfl (Nat.le_of_ble_eq_true rfl) rfl ?_
        refine g_sub (L' := [(0, .ref (base + 19)), (1, .int (0 : Int32))]) [1, 0] rfl ?_
        obtain ⟨n9, h⟩ := h
        exact r_46 n9 (0 : Int32) M h
      · have h := h.2 c
        refine g_aload_n X dWR_putParts_7 rfl 0 rfl ?_
        refine g_getr X hK.1 fw_WR_51 ly_19 rfl dWR_putParts_8 ?_
        refine g_aload_n X dWR_putParts_11 rfl 0 rfl ?_
        refine g_getr X hK.1 fw_WR_47 ly_19 rfl dWR_putParts_12 ?_
        refine g_getrN X hK.1 (gNw_of hK) fw_WR_192 ly_1 rfl dWR_putParts_15 ?_
        refine g_iload_n X dWR_putParts_18 rfl 1 rfl ?_
        refine g_sipush X (v := (2048 : Int32)) dWR_putParts_19 (by decide) ?_
        refine g_imul X dWR_putParts_22 ?_
        refine g_aload_n X dWR_putParts_23 rfl 0 rfl ?_
        refine g_getr X hK.1 fw_WR_32 ly_19 rfl dWR_putParts_24 ?_
        refine g_iload_n X dWR_putParts_27 rfl 1 rfl ?_
        obtain ⟨hi, h⟩ := h
        refine g_iald X hK.1 ly_27 hi dWR_putParts_28 ?_
        refine g_aload_n X dWR_putParts_29 rfl 0 rfl ?_
        refine g_getr X hK.1 fw_WR_35 ly_19 rfl dWR_putParts_30 ?_
        refine g_iload_n X dWR_putParts_33 rfl 1 rfl ?_
        obtain ⟨hi, h⟩ := h
        refine g_iald X hK.1 ly_28 hi dWR_putParts_34 ?_
        refine g_callVN X hK gTs_ok ly_17 rfl mw_FB_copyIn nw_573 mi_FB_copyIn ms_FB_copyIn (As := [.ref (base + 2), .int (v1 * (2048 : Int32)), .int (M 27 (v1).toNatClampNeg), .int (M 28 (v1).toNatClampNeg)]) rfl ⟨(Nat.le_of_ble_eq_true rfl), (Nat.le_of_ble_eq_true rfl), Nat.le_refl _, Nat.le_refl _⟩ (m_FB_copyIn_2 h) (rest := []) rfl (Nat.le_of_ble_eq_true rfl) dWR_putParts_35 (gk_v (fun M17 h => ?_))
        obtain ⟨x18, ex18⟩ : ∃ z : Int32, z = v1 + (1 : Int32) := ⟨_, rfl⟩
        have h := h x18 ex18
        refine g_iinc X (L' := [(1, .int x18), (0, .ref (base + 19))]) (k := 1) dWR_putParts_38 rfl (v := x18) (by rw [ex18]; rfl) (Nat.le_of_ble_eq_true rfl) rfl ?_
        refine g_goto X dWR_putParts_41 ?_
        refine g_sub (L' := [(0, .ref (base + 19)), (1, .int x18)]) [1, 0] rfl ?_
        exact ih x18 M17 h
  refine g_args (L' := [(0, .ref (base + 19))]) rfl ?_
  unfold wp_WR_putParts at h
  refine g_iconst X (v := (0 : Int32)) dWR_putParts_0 (by decide) ?_
  refine g_istore_n X (L' := [(1, .int (0 : Int32)), (0, .ref (base + 19))]) dWR_putParts_1 rfl (Nat.le_of_ble_eq_true rfl) rfl ?_
  refine g_sub (L' := [(0, .ref (base + 19)), (1, .int (0 : Int32))]) [1, 0] rfl ?_
  obtain ⟨n9, h⟩ := h
  exact r_2 n9 (0 : Int32) M h
set_option maxRecDepth 100000 in
set_option maxHeartbeats 4000000 in
theorem m_OF_isRela {l : Launch} {D : va_G} {ta : Nat → ClassId} {base : Nat} {sa : Nat → Nat} {post : Bool → gMem → Prop} {a0 : Int32} {M : gMem} (h : wp_OF_isRela post a0 M) : GC gLay gCl D ta base gNw sa gTabs gTs l y_OF_isRela b_OF_isRela 1 (some .boolean) 0 0 [.int a0] M (gPz post) := by
  refine GC.of (own := "ObjectFile") pn_OF rfl (Nat.le_of_ble_eq_true rfl) ?_
  intro p e s m below meth c X hK hr hlk
  refine g_args (L' := [(0, .int a0)]) rfl ?_
  unfold wp_OF_isRela at h
  refine g_iload_n X dOF_isRela_0 rfl 0 rfl ?_
  refine g_iconst X (v := (5 : Int32)) dOF_isRela_1 (by decide) ?_
  refine g_icmp_lt X dOF_isRela_2 (fun c => ?_) (fun c => ?_)
  · have h := h.1 c
    refine g_iconst X (v := (0 : Int32)) dOF_isRela_15 (by decide) ?_
    exact g_zret X hr hlk (by decide) dOF_isRela_16 ⟨false, rfl, h⟩
  · have h := h.2 c
    refine g_iload_n X dOF_isRela_5 rfl 0 rfl ?_
    refine g_bipush X (v := (8 : Int32)) dOF_isRela_6 (by decide) ?_
    refine g_icmp_ge X dOF_isRela_8 (fun c => ?_) (fun c => ?_)
    · have h := h.1 c
      refine g_iconst X (v := (0 : Int32)) dOF_isRela_15 (by decide) ?_
      exact g_zret X hr hlk (by decide) dOF_isRela_16 ⟨false, rfl, h⟩
    · have h := h.2 c
      refine g_iconst X (v := (1 : Int32)) dOF_isRela_11 (by decide) ?_
      refine g_goto X dOF_isRela_12 ?_
      exact g_zret X hr hlk (by decide) dOF_isRela_16 ⟨true, rfl, h⟩
set_option maxRecDepth 100000 in
set_option maxHeartbeats 4000000 in
theorem m_WR_linkOf {l : Launch} {D : va_G} {ta : Nat → ClassId} {base : Nat} {sa : Nat → Nat} {post : Int32 → gMem → Prop} {a0 : Int32} {M : gMem} (h : wp_WR_linkOf post a0 M) : GC gLay gCl D ta base gNw sa gTabs gTs l y_WR_linkOf b_WR_linkOf 2 (some .int) 1 20 [.ref (base + 19), .int a0] M (gPi post) := by
  refine GC.of (own := "ObjectFile$Writer") pn_WR rfl (Nat.le_of_ble_eq_true rfl) ?_
  intro p e s m below meth c X hK hr hlk
  refine g_args (L' := [(0, .ref (base + 19)), (1, .int a0)]) rfl ?_
  unfold wp_WR_linkOf at h
  refine g_iload_n X dWR_linkOf_0 rfl 1 rfl ?_
  refine g_callSN X hK gTs_ok mw_OF_isRela nw_610 mt_OF_isRela (As := [.int a0]) rfl ⟨(Nat.le_of_ble_eq_true rfl), (Nat.le_of_ble_eq_true rfl), Nat.le_refl _, Nat.le_refl _⟩ (m_OF_isRela h) (rest := []) rfl (Nat.le_of_ble_eq_true rfl) dWR_linkOf_1 (gk_z (fun r1 M2 h => ?_))
  refine g_if_eq X dWR_linkOf_4 (fun c => ?_) (fun c => ?_)
  · have h := h.1 c
    refine g_iload_n X dWR_linkOf_17 rfl 1 rfl ?_
    refine g_bipush X (v := (8 : Int32)) dWR_linkOf_18 (by decide) ?_
    refine g_icmp_ne X dWR_linkOf_20 (fun c => ?_) (fun c => ?_)
    · have h := h.1 c
      refine g_iconst X (v := (0 : Int32)) dWR_linkOf_33 (by decide) ?_
      exact g_iret X hr hlk dWR_linkOf_34 ⟨_, rfl, h⟩
    · have h := h.2 c
      refine g_aload_n X dWR_linkOf_23 rfl 0 rfl ?_
      refine g_getr X hK.1 fw_WR_25 ly_19 rfl dWR_linkOf_24 ?_
      refine g_bipush X (v := (9 : Int32)) dWR_linkOf_27 (by decide) ?_
      obtain ⟨hi, h⟩ := h
      refine g_iald X hK.1 ly_25 hi dWR_linkOf_29 ?_
      refine g_goto X dWR_linkOf_30 ?_
      exact g_iret X hr hlk dWR_linkOf_34 ⟨_, rfl, h⟩
  · have h := h.2 c
    refine g_aload_n X dWR_linkOf_7 rfl 0 rfl ?_
    refine g_getr X hK.1 fw_WR_25 ly_19 rfl dWR_linkOf_8 ?_
    refine g_bipush X (v := (8 : Int32)) dWR_linkOf_11 (by decide) ?_
    obtain ⟨hi, h⟩ := h
    refine g_iald X hK.1 ly_25 hi dWR_linkOf_13 ?_
    refine g_goto X dWR_linkOf_14 ?_
    exact g_iret X hr hlk dWR_linkOf_34 ⟨_, rfl, h⟩
set_option maxRecDepth 100000 in
set_option maxHeartbeats 4000000 in
theorem m_WR_infoOf {l : Launch} {D : va_G} {ta : Nat → ClassId} {base : Nat} {sa : Nat → Nat} {post : Int32 → gMem → Prop} {a0 : Int32} {M : gMem} (h : wp_WR_infoOf post a0 M) : GC gLay gCl D ta base gNw sa gTabs gTs l y_WR_infoOf b_WR_infoOf 2 (some .int) 1 20 [.ref (base + 19), .int a0] M (gPi post) := by
  refine GC.of (own := "ObjectFile$Writer") pn_WR rfl (Nat.le_of_ble_eq_true rfl) ?_
  intro p e s m below meth c X hK hr hlk
  refine g_args (L' := [(0, .ref (base + 19)), (1, .int a0)]) rfl ?_
  unfold wp_WR_infoOf at h
  refine g_iload_n X dWR_infoOf_0 rfl 1 rfl ?_
  refine g_callSN X hK gTs_ok mw_OF_isRela nw_610 mt_OF_isRela (As := [.int a0]) rfl ⟨(Nat.le_of_ble_eq_true rfl), (Nat.le_of_ble_eq_true rfl), Nat.le_refl _, Nat.le_refl _⟩ (m_OF_isRela h) (rest := []) rfl (Nat.le_of_ble_eq_true rfl) dWR_infoOf_1 (gk_z (fun r1 M2 h => ?_))
  refine g_if_eq X dWR_infoOf_4 (fun c => ?_) (fun c => ?_)
  · have h := h.1 c
    refine g_iload_n X dWR_infoOf_18 rfl 1 rfl ?_
    refine g_bipush X (v := (8 : Int32)) dWR_infoOf_19 (by decide) ?_
    refine g_icmp_ne X dWR_infoOf_21 (fun c => ?_) (fun c => ?_)
    · have h := h.1 c
      refine g_iconst X (v := (0 : Int32)) dWR_infoOf_33 (by decide) ?_
      exact g_iret X hr hlk dWR_infoOf_34 ⟨_, rfl, h⟩
    · have h := h.2 c
      refine g_iconst X (v := (1 : Int32)) dWR_infoOf_24 (by decide) ?_
      refine g_aload_n X dWR_infoOf_25 rfl 0 rfl ?_
      refine g_geti X hK.1 fw_WR_115 ly_19 rfl dWR_infoOf_26 ?_
      refine g_iadd X dWR_infoOf_29 ?_
      refine g_goto X dWR_infoOf_30 ?_
      exact g_iret X hr hlk dWR_infoOf_34 ⟨_, rfl, h⟩
  · have h := h.2 c
    refine g_aload_n X dWR_infoOf_7 rfl 0 rfl ?_
    refine g_getr X hK.1 fw_WR_25 ly_19 rfl dWR_infoOf_8 ?_
    refine g_iload_n X dWR_infoOf_11 rfl 1 rfl ?_
    refine g_iconst X (v := (5 : Int32)) dWR_infoOf_12 (by decide) ?_
    refine g_isub X dWR_infoOf_13 ?_
    obtain ⟨hi, h⟩ := h
    refine g_iald X hK.1 ly_25 hi dWR_infoOf_14 ?_
    refine g_goto X dWR_infoOf_15 ?_
    exact g_iret X hr hlk dWR_infoOf_34 ⟨_, rfl, h⟩
set_option maxRecDepth 100000 in
set_option maxHeartbeats 4000000 in
theorem m_WR_putEntry {l : Launch} {D : va_G} {ta : Nat → ClassId} {base : Nat} {sa : Nat → Nat} {post : gMem → Prop} {a0 : Int32} {M : gMem} (h : wp_WR_putEntry post a0 M) : GC gLay gCl D ta base gNw sa gTabs gTs l y_WR_putEntry b_WR_putEntry 3 none 2 41 [.ref (base + 19), .int a0] M (gPv post) := by
  refine GC.of (own := "ObjectFile$Writer") pn_WR rfl (Nat.le_of_ble_eq_true rfl) ?_
  intro p e s m below meth c X hK hr hlk
  refine g_args (L' := [(0, .ref (base + 19)), (1, .int a0)]) rfl ?_
  unfold wp_WR_putEntry at h
  refine g_aload_n X dWR_putEntry_0 rfl 0 rfl ?_
  refine g_geti X hK.1 fw_WR_82 ly_19 rfl dWR_putEntry_1 ?_
  refine g_bipush X (v := (40 : Int32)) dWR_putEntry_4 (by decide) ?_
  refine g_aload_n X dWR_putEntry_6 rfl 0 rfl ?_
  refine g_getr X hK.1 fw_WR_25 ly_19 rfl dWR_putEntry_7 ?_
  refine g_iload_n X dWR_putEntry_10 rfl 1 rfl ?_
  obtain ⟨hi, h⟩ := h
  refine g_iald X hK.1 ly_25 hi dWR_putEntry_11 ?_
  refine g_imul X dWR_putEntry_12 ?_
  refine g_iadd X dWR_putEntry_13 ?_
  refine g_topi (fun x1 ex1 => ?_)
  have h := h x1 ex1
  refine g_istore_n X (L' := [(2, .int x1), (0, .ref (base + 19)), (1, .int a0)]) dWR_putEntry_14 rfl (Nat.le_of_ble_eq_true rfl) rfl ?_
  refine g_aload_n X dWR_putEntry_15 rfl 1 rfl ?_
  refine g_getr X hK.1 fw_WR_51 ly_19 rfl dWR_putEntry_16 ?_
  refine g_iload_n X dWR_putEntry_19 rfl 0 rfl ?_
  refine g_iconst X (v := (0 : Int32)) dWR_putEntry_20 (by decide) ?_
  refine g_iadd X dWR_putEntry_21 ?_
  refine g_aload_n X dWR_putEntry_22 rfl 1 rfl ?_
  refine g_getr X hK.1 fw_WR_29 ly_19 rfl dWR_putEntry_23 ?_
  refine g_iload_n X dWR_putEntry_26 rfl 2 rfl ?_
  obtain ⟨hi, h⟩ := h
  refine g_iald X hK.1 ly_26 hi dWR_putEntry_27 ?_
  refine g_callVN X hK gTs_ok ly_17 rfl mw_FB_put4 nw_554 mi_FB_put4 ms_FB_put4 (As := [.int (x1 + (0 : Int32)), .int (M 26 (a0).toNatClampNeg)]) rfl ⟨(Nat.le_of_ble_eq_true rfl), (Nat.le_of_ble_eq_true rfl), Nat.le_refl _, Nat.le_refl _⟩ (m_FB_put4 h) (rest := []) rfl (Nat.le_of_ble_eq_true rfl) dWR_putEntry_28 (gk_v (fun M3 h => ?_))
  refine g_aload_n X dWR_putEntry_31 rfl 1 rfl ?_
  refine g_getr X hK.1 fw_WR_51 ly_19 rfl dWR_putEntry_32 ?_
  refine g_iload_n X dWR_putEntry_35 rfl 0 rfl ?_
  refine g_iconst X (v := (4 : Int32)) dWR_putEntry_36 (by decide) ?_
  refine g_iadd X dWR_putEntry_37 ?_
  refine g_getsN X hK (j := 3) rfl nw_602 dWR_putEntry_38 ?_
  refine g_iload_n X dWR_putEntry_41 rfl 2 rfl ?_
  obtain ⟨hi, h⟩ := h
  refine g_tald X hK (j := 3) rfl rfl hi dWR_putEntry_42 ?_
  refine g_callVN X hK gTs_ok ly_17 rfl mw_FB_put4 nw_554 mi_FB_put4 ms_FB_put4 (As := [.int (x1 + (4 : Int32)), .int (gTb3.getD (a0).toNatClampNeg 0)]) rfl ⟨(Nat.le_of_ble_eq_true rfl), (Nat.le_of_ble_eq_true rfl), Nat.le_refl _, Nat.le_refl _⟩ (m_FB_put4 h) (rest := []) rfl (Nat.le_of_ble_eq_true rfl) dWR_putEntry_43 (gk_v (fun M5 h => ?_))
  refine g_aload_n X dWR_putEntry_46 rfl 1 rfl ?_
  refine g_getr X hK.1 fw_WR_51 ly_19 rfl dWR_putEntry_47 ?_
  refine g_iload_n X dWR_putEntry_50 rfl 0 rfl ?_
  refine g_bipush X (v := (8 : Int32)) dWR_putEntry_51 (by decide) ?_
  refine g_iadd X dWR_putEntry_53 ?_
  refine g_getsN X hK (j := 1) rfl nw_604 dWR_putEntry_54 ?_
  refine g_iload_n X dWR_putEntry_57 rfl 2 rfl ?_
  obtain ⟨hi, h⟩ := h
  refine g_tald X hK (j := 1) rfl rfl hi dWR_putEntry_58 ?_
  refine g_callVN X hK gTs_ok ly_17 rfl mw_FB_put4 nw_554 mi_FB_put4 ms_FB_put4 (As := [.int (x1 + (8 : Int32)), .int (gTb1.getD (a0).toNatClampNeg 0)]) rfl ⟨(Nat.le_of_ble_eq_true rfl), (Nat.le_of_ble_eq_true rfl), Nat.le_refl _, Nat.le_refl _⟩ (m_FB_put4 h) (rest := []) rfl (Nat.le_of_ble_eq_true rfl) dWR_putEntry_59 (gk_v (fun M7 h => ?_))
  refine g_aload_n X dWR_putEntry_62 rfl 1 rfl ?_
  refine g_getr X hK.1 fw_WR_51 ly_19 rfl dWR_putEntry_63 ?_
  refine g_iload_n X dWR_putEntry_66 rfl 0 rfl ?_
  refine g_bipush X (v := (16 : Int32)) dWR_putEntry_67 (by decide) ?_
  refine g_iadd X dWR_putEntry_69 ?_
  refine g_aload_n X dWR_putEntry_70 rfl 1 rfl ?_
  refine g_getr X hK.1 fw_WR_32 ly_19 rfl dWR_putEntry_71 ?_
  refine g_iload_n X dWR_putEntry_74 rfl 2 rfl ?_
  obtain ⟨hi, h⟩ := h
  refine g_iald X hK.1 ly_27 hi dWR_putEntry_75 ?_
  refine g_callVN X hK gTs_ok ly_17 rfl mw_FB_put4 nw_554 mi_FB_put4 ms_FB_put4 (As := [.int (x1 + (16 : Int32)), .int (M7 27 (a0).toNatClampNeg)]) rfl ⟨(Nat.le_of_ble_eq_true rfl), (Nat.le_of_ble_eq_true rfl), Nat.le_refl _, Nat.le_refl _⟩ (m_FB_put4 h) (rest := []) rfl (Nat.le_of_ble_eq_true rfl) dWR_putEntry_76 (gk_v (fun M9 h => ?_))
  refine g_aload_n X dWR_putEntry_79 rfl 1 rfl ?_
  refine g_getr X hK.1 fw_WR_51 ly_19 rfl dWR_putEntry_80 ?_
  refine g_iload_n X dWR_putEntry_83 rfl 0 rfl ?_
  refine g_bipush X (v := (20 : Int32)) dWR_putEntry_84 (by decide) ?_
  refine g_iadd X dWR_putEntry_86 ?_
  refine g_aload_n X dWR_putEntry_87 rfl 1 rfl ?_
  refine g_getr X hK.1 fw_WR_35 ly_19 rfl dWR_putEntry_88 ?_
  refine g_iload_n X dWR_putEntry_91 rfl 2 rfl ?_
  obtain ⟨hi, h⟩ := h
  refine g_iald X hK.1 ly_28 hi dWR_putEntry_92 ?_
  refine g_callVN X hK gTs_ok ly_17 rfl mw_FB_put4 nw_554 mi_FB_put4 ms_FB_put4 (As := [.int (x1 + (20 : Int32)), .int (M9 28 (a0).toNatClampNeg)]) rfl ⟨(Nat.le_of_ble_eq_true rfl), (Nat.le_of_ble_eq_true rfl), Nat.le_refl _, Nat.le_refl _⟩ (m_FB_put4 h) (rest := []) rfl (Nat.le_of_ble_eq_true rfl) dWR_putEntry_93 (gk_v (fun M11 h => ?_))
  refine g_aload_n X dWR_putEntry_96 rfl 1 rfl ?_
  refine g_getr X hK.1 fw_WR_51 ly_19 rfl dWR_putEntry_97 ?_
  refine g_iload_n X dWR_putEntry_100 rfl 0 rfl ?_
  refine g_bipush X (v := (24 : Int32)) dWR_putEntry_101 (by decide) ?_
  refine g_iadd X dWR_putEntry_103 ?_
  refine g_aload_n X dWR_putEntry_104 rfl 1 rfl ?_
  refine g_iload_n X dWR_putEntry_105 rfl 2 rfl ?_
  refine g_callV X hK gTs_ok ly_19 rfl mw_WR_linkOf tw_606 mi_WR_linkOf ms_WR_linkOf (As := [.int a0]) rfl ⟨(Nat.le_of_ble_eq_true rfl), (Nat.le_of_ble_eq_true rfl), Nat.le_refl _, Nat.le_refl _⟩ (m_WR_linkOf h) (rest := [.int (x1 + (24 : Int32)), .ref (base + 17)]) rfl (Nat.le_of_ble_eq_true rfl) dWR_putEntry_106 (gk_i (fun r12 M13 h => ?_))
  refine g_callVN X hK gTs_ok ly_17 rfl mw_FB_put4 nw_554 mi_FB_put4 ms_FB_put4 (As := [.int (x1 + (24 : Int32)), .int r12]) rfl ⟨(Nat.le_of_ble_eq_true rfl), (Nat.le_of_ble_eq_true rfl), Nat.le_refl _, Nat.le_refl _⟩ (m_FB_put4 h) (rest := []) rfl (Nat.le_of_ble_eq_true rfl) dWR_putEntry_109 (gk_v (fun M15 h => ?_))
  refine g_aload_n X dWR_putEntry_112 rfl 1 rfl ?_
  refine g_getr X hK.1 fw_WR_51 ly_19 rfl dWR_putEntry_113 ?_
  refine g_iload_n X dWR_putEntry_116 rfl 0 rfl ?_
  refine g_bipush X (v := (28 : Int32)) dWR_putEntry_117 (by decide) ?_
  refine g_iadd X dWR_putEntry_119 ?_
  refine g_aload_n X dWR_putEntry_120 rfl 1 rfl ?_
  refine g_iload_n X dWR_putEntry_121 rfl 2 rfl ?_
  refine g_callV X hK gTs_ok ly_19 rfl mw_WR_infoOf tw_613 mi_WR_infoOf ms_WR_infoOf (As := [.int a0]) rfl ⟨(Nat.le_of_ble_eq_true rfl), (Nat.le_of_ble_eq_true rfl), Nat.le_refl _, Nat.le_refl _⟩ (m_WR_infoOf h) (rest := [.int (x1 + (28 : Int32)), .ref (base + 17)]) rfl (Nat.le_of_ble_eq_true rfl) dWR_putEntry_122 (gk_i (fun r16 M17 h => ?_))
  refine g_callVN X hK gTs_ok ly_17 rfl mw_FB_put4 nw_554 mi_FB_put4 ms_FB_put4 (As := [.int (x1 + (28 : Int32)), .int r16]) rfl ⟨(Nat.le_of_ble_eq_true rfl), (Nat.le_of_ble_eq_true rfl), Nat.le_refl _, Nat.le_refl _⟩ (m_FB_put4 h) (rest := []) rfl (Nat.le_of_ble_eq_true rfl) dWR_putEntry_125 (gk_v (fun M19 h => ?_))
  refine g_aload_n X dWR_putEntry_128 rfl 1 rfl ?_
  refine g_getr X hK.1 fw_WR_51 ly_19 rfl dWR_putEntry_129 ?_
  refine g_iload_n X dWR_putEntry_132 rfl 0 rfl ?_
  refine g_bipush X (v := (32 : Int32)) dWR_putEntry_133 (by decide) ?_
  refine g_iadd X dWR_putEntry_135 ?_
  refine g_aload_n X dWR_putEntry_136 rfl 1 rfl ?_
  refine g_iload_n X dWR_putEntry_137 rfl 2 rfl ?_
  refine g_callV X hK gTs_ok ly_19 rfl mw_WR_alignmentOf tw_521 mi_WR_alignmentOf ms_WR_alignmentOf (As := [.int a0]) rfl ⟨(Nat.le_of_ble_eq_true rfl), (Nat.le_of_ble_eq_true rfl), Nat.le_refl _, Nat.le_refl _⟩ (m_WR_alignmentOf h) (rest := [.int (x1 + (32 : Int32)), .ref (base + 17)]) rfl (Nat.le_of_ble_eq_true rfl) dWR_putEntry_138 (gk_i (fun r20 M21 h => ?_))
  refine g_callVN X hK gTs_ok ly_17 rfl mw_FB_put4 nw_554 mi_FB_put4 ms_FB_put4 (As := [.int (x1 + (32 : Int32)), .int r20]) rfl ⟨(Nat.le_of_ble_eq_true rfl), (Nat.le_of_ble_eq_true rfl), Nat.le_refl _, Nat.le_refl _⟩ (m_FB_put4 h) (rest := []) rfl (Nat.le_of_ble_eq_true rfl) dWR_putEntry_141 (gk_v (fun M23 h => ?_))
  refine g_aload_n X dWR_putEntry_144 rfl 1 rfl ?_
  refine g_getr X hK.1 fw_WR_51 ly_19 rfl dWR_putEntry_145 ?_
  refine g_iload_n X dWR_putEntry_148 rfl 0 rfl ?_
  refine g_bipush X (v := (36 : Int32)) dWR_putEntry_149 (by decide) ?_
  refine g_iadd X dWR_putEntry_151 ?_
  refine g_getsN X hK (j := 4) rfl nw_617 dWR_putEntry_152 ?_
  refine g_iload_n X dWR_putEntry_155 rfl 2 rfl ?_
  obtain ⟨hi, h⟩ := h
  refine g_tald X hK (j := 4) rfl rfl hi dWR_putEntry_156 ?_
  refine g_callVN X hK gTs_ok ly_17 rfl mw_FB_put4 nw_554 mi_FB_put4 ms_FB_put4 (As := [.int (x1 + (36 : Int32)), .int (gTb4.getD (a0).toNatClampNeg 0)]) rfl ⟨(Nat.le_of_ble_eq_true rfl), (Nat.le_of_ble_eq_true rfl), Nat.le_refl _, Nat.le_refl _⟩ (m_FB_put4 h) (rest := []) rfl (Nat.le_of_ble_eq_true rfl) dWR_putEntry_157 (gk_v (fun M25 h => ?_))
  exact g_vret X hr hlk dWR_putEntry_160 ⟨rfl, h⟩
set_option maxRecDepth 100000 in
set_option maxHeartbeats 4000000 in
theorem m_WR_putTable {l : Launch} {D : va_G} {ta : Nat → ClassId} {base : Nat} {sa : Nat → Nat} {post : gMem → Prop} {M : gMem} (h : wp_WR_putTable post M) : GC gLay gCl D ta base gNw sa gTabs gTs l y_WR_putTable b_WR_putTable 2 none 3 63 [.ref (base + 19)] M (gPv post) := by
  refine GC.of (own := "ObjectFile$Writer") pn_WR rfl (Nat.le_of_ble_eq_true rfl) ?_
  intro p e s m below meth c X hK hr hlk
  have r_2 : ∀ (n : Nat) (v1 : Int32) (M : gMem), wl_WR_putTable_2 post n v1 M → GMx D ta base p l e 3 63 s m [.ref (base + 19)] below meth c (gPv post) 2 2 [(0, .ref (base + 19)), (1, .int v1)] [] M := by
    intro n
    induction n with
    | zero => exact fun _ M h => h.elim
    | succ n ih =>
      intro v1 M h
      refine g_iload_n X dWR_putTable_2 rfl 1 rfl ?_
      refine g_bipush X (v := (11 : Int32)) dWR_putTable_3 (by decide) ?_
      refine g_icmp_ge X dWR_putTable_5 (fun c => ?_) (fun c => ?_)
      · have h := h.1 c
        exact g_vret X hr hlk dWR_putTable_27 ⟨rfl, h⟩
      · have h := h.2 c
        refine g_aload_n X dWR_putTable_8 rfl 0 rfl ?_
        refine g_iload_n X dWR_putTable_9 rfl 1 rfl ?_
        refine g_callV X hK gTs_ok ly_19 rfl mw_WR_isThere tw_444 mi_WR_isThere ms_WR_isThere (As := [.int v1]) rfl ⟨(Nat.le_of_ble_eq_true rfl), (Nat.le_of_ble_eq_true rfl), Nat.le_refl _, Nat.le_refl _⟩ (m_WR_isThere h) (rest := []) rfl (Nat.le_of_ble_eq_true rfl) dWR_putTable_10 (gk_z (fun r1 M2 h => ?_))
        refine g_if_eq X dWR_putTable_13 (fun c => ?_) (fun c => ?_)
        · have h := h.1 c
          obtain ⟨x3, ex3⟩ : ∃ z : Int32, z = v1 + (1 : Int32) := ⟨_, rfl⟩
          have h := h x3 ex3
          refine g_iinc X (L' := [(1, .int x3), (0, .ref (base + 19))]) (k := 1) dWR_putTable_21 rfl (v := x3) (by rw [ex3]; rfl) (Nat.le_of_ble_eq_true rfl) rfl ?_
          refine g_goto X dWR_putTable_24 ?_
          refine g_sub (L' := [(0, .ref (base + 19)), (1, .int x3)]) [1, 0] rfl ?_
          exact ih x3 M2 h
        · have h := h.2 c
          refine g_aload_n X dWR_putTable_16 rfl 0 rfl ?_
          refine g_iload_n X dWR_putTable_17 rfl 1 rfl ?_
          refine g_callV X hK gTs_ok ly_19 rfl mw_WR_putEntry tw_598 mi_WR_putEntry ms_WR_putEntry (As := [.int v1]) rfl ⟨(Nat.le_of_ble_eq_true rfl), (Nat.le_of_ble_eq_true rfl), Nat.le_refl _, Nat.le_refl _⟩ (m_WR_putEntry h) (rest := []) rfl (Nat.le_of_ble_eq_true rfl) dWR_putTable_18 (gk_v (fun M5 h => ?_))
          obtain ⟨x6, ex6⟩ : ∃ z : Int32, z = v1 + (1 : Int32) := ⟨_, rfl⟩
          have h := h x6 ex6
          refine g_iinc X (L' := [(1, .int x6), (0, .ref (base + 19))]) (k := 1) dWR_putTable_21 rfl (v := x6) (by rw [ex6]; rfl) (Nat.le_of_ble_eq_true rfl) rfl ?_
          refine g_goto X dWR_putTable_24 ?_
          refine g_sub (L' := [(0, .ref (base + 19)), (1, .int x6)]) [1, 0] rfl ?_
          exact ih x6 M5 h
  refine g_args (L' := [(0, .ref (base + 19))]) rfl ?_
  unfold wp_WR_putTable at h
  refine g_iconst X (v := (0 : Int32)) dWR_putTable_0 (by decide) ?_
  refine g_istore_n X (L' := [(1, .int (0 : Int32)), (0, .ref (base + 19))]) dWR_putTable_1 rfl (Nat.le_of_ble_eq_true rfl) rfl ?_
  refine g_sub (L' := [(0, .ref (base + 19)), (1, .int (0 : Int32))]) [1, 0] rfl ?_
  obtain ⟨n9, h⟩ := h
  exact r_2 n9 (0 : Int32) M h
set_option maxRecDepth 100000 in
set_option maxHeartbeats 4000000 in
theorem m_WR_writeAll {l : Launch} {D : va_G} {ta : Nat → ClassId} {base : Nat} {sa : Nat → Nat} {post : Int32 → gMem → Prop} {M : gMem} (h : wp_WR_writeAll post M) : GC gLay gCl D ta base gNw sa gTabs gTs l y_WR_writeAll b_WR_writeAll 2 (some .int) 6 130 [.ref (base + 19)] M (gPi post) := by
  refine GC.of (own := "ObjectFile$Writer") pn_WR rfl (Nat.le_of_ble_eq_true rfl) ?_
  intro p e s m below meth c X hK hr hlk
  refine g_args (L' := [(0, .ref (base + 19))]) rfl ?_
  unfold wp_WR_writeAll at h
  refine g_aload_n X dWR_writeAll_0 rfl 0 rfl ?_
  refine g_getr X hK.1 fw_WR_47 ly_19 rfl dWR_writeAll_1 ?_
  refine g_callVN X hK gTs_ok ly_1 rfl mw_CT_startGoesBeyond nw_384 mi_CT_startGoesBeyond ms_CT_startGoesBeyond (As := []) rfl ⟨(Nat.le_of_ble_eq_true rfl), (Nat.le_of_ble_eq_true rfl), Nat.le_refl _, Nat.le_refl _⟩ (m_CT_startGoesBeyond_m h) (rest := []) rfl (Nat.le_of_ble_eq_true rfl) dWR_writeAll_4 (gk_z (fun r1 M2 h => ?_))
  refine g_if_eq X dWR_writeAll_7 (fun c => ?_) (fun c => ?_)
  · have h := h.1 c
    refine g_aload_n X dWR_writeAll_12 rfl 0 rfl ?_
    refine g_getr X hK.1 fw_WR_47 ly_19 rfl dWR_writeAll_13 ?_
    refine g_callVN X hK gTs_ok ly_1 rfl mw_CT_symbolGoesBeyond nw_389 mi_CT_symbolGoesBeyond ms_CT_symbolGoesBeyond (As := []) rfl ⟨(Nat.le_of_ble_eq_true rfl), (Nat.le_of_ble_eq_true rfl), Nat.le_refl _, Nat.le_refl _⟩ (m_CT_symbolGoesBeyond_m h) (rest := []) rfl (Nat.le_of_ble_eq_true rfl) dWR_writeAll_16 (gk_z (fun r3 M4 h => ?_))
    refine g_if_eq X dWR_writeAll_19 (fun c => ?_) (fun c => ?_)
    · have h := h.1 c
      refine g_aload_n X dWR_writeAll_25 rfl 0 rfl ?_
      refine g_getr X hK.1 fw_WR_47 ly_19 rfl dWR_writeAll_26 ?_
      refine g_callVN X hK gTs_ok ly_1 rfl mw_CT_relocationGoesBeyond nw_393 mi_CT_relocationGoesBeyond ms_CT_relocationGoesBeyond (As := []) rfl ⟨(Nat.le_of_ble_eq_true rfl), (Nat.le_of_ble_eq_true rfl), Nat.le_refl _, Nat.le_refl _⟩ (m_CT_relocationGoesBeyond_m h) (rest := []) rfl (Nat.le_of_ble_eq_true rfl) dWR_writeAll_29 (gk_z (fun r5 M6 h => ?_))
      refine g_if_eq X dWR_writeAll_32 (fun c => ?_) (fun c => ?_)
      · have h := h.1 c
        refine g_aload_n X dWR_writeAll_38 rfl 0 rfl ?_
        refine g_callV X hK gTs_ok ly_19 rfl mw_WR_orderSymbols tw_402 mi_WR_orderSymbols ms_WR_orderSymbols (As := []) rfl ⟨(Nat.le_of_ble_eq_true rfl), (Nat.le_of_ble_eq_true rfl), Nat.le_refl _, Nat.le_refl _⟩ (m_WR_orderSymbols h) (rest := []) rfl (Nat.le_of_ble_eq_true rfl) dWR_writeAll_39 (gk_v (fun M8 h => ?_))
        refine g_aload_n X dWR_writeAll_42 rfl 0 rfl ?_
        refine g_callV X hK gTs_ok ly_19 rfl mw_WR_gatherNames tw_411 mi_WR_gatherNames ms_WR_gatherNames (As := []) rfl ⟨(Nat.le_of_ble_eq_true rfl), (Nat.le_of_ble_eq_true rfl), Nat.le_refl _, Nat.le_refl _⟩ (m_WR_gatherNames h) (rest := []) rfl (Nat.le_of_ble_eq_true rfl) dWR_writeAll_43 (gk_v (fun M10 h => ?_))
        refine g_aload_n X dWR_writeAll_46 rfl 0 rfl ?_
        refine g_callV X hK gTs_ok ly_19 rfl mw_WR_measureParts tw_432 mi_WR_measureParts ms_WR_measureParts (As := []) rfl ⟨(Nat.le_of_ble_eq_true rfl), (Nat.le_of_ble_eq_true rfl), Nat.le_refl _, Nat.le_refl _⟩ (m_WR_measureParts h) (rest := []) rfl (Nat.le_of_ble_eq_true rfl) dWR_writeAll_47 (gk_v (fun M12 h => ?_))
        refine g_aload_n X dWR_writeAll_50 rfl 0 rfl ?_
        refine g_callV X hK gTs_ok ly_19 rfl mw_WR_numberEntries tw_440 mi_WR_numberEntries ms_WR_numberEntries (As := []) rfl ⟨(Nat.le_of_ble_eq_true rfl), (Nat.le_of_ble_eq_true rfl), Nat.le_refl _, Nat.le_refl _⟩ (m_WR_numberEntries h) (rest := []) rfl (Nat.le_of_ble_eq_true rfl) dWR_writeAll_51 (gk_v (fun M14 h => ?_))
        refine g_aload_n X dWR_writeAll_54 rfl 0 rfl ?_
        refine g_callV X hK gTs_ok ly_19 rfl mw_WR_layParts tw_517 mi_WR_layParts ms_WR_layParts (As := []) rfl ⟨(Nat.le_of_ble_eq_true rfl), (Nat.le_of_ble_eq_true rfl), Nat.le_refl _, Nat.le_refl _⟩ (m_WR_layParts h) (rest := []) rfl (Nat.le_of_ble_eq_true rfl) dWR_writeAll_55 (gk_v (fun M16 h => ?_))
        refine g_aload_n X dWR_writeAll_58 rfl 0 rfl ?_
        refine g_geti X hK.1 fw_WR_82 ly_19 rfl dWR_writeAll_59 ?_
        refine g_bipush X (v := (40 : Int32)) dWR_writeAll_62 (by decide) ?_
        refine g_aload_n X dWR_writeAll_64 rfl 0 rfl ?_
        refine g_geti X hK.1 fw_WR_86 ly_19 rfl dWR_writeAll_65 ?_
        refine g_imul X dWR_writeAll_68 ?_
        refine g_iadd X dWR_writeAll_69 ?_
        refine g_topi (fun x17 ex17 => ?_)
        have h := h x17 ex17
        refine g_istore_n X (L' := [(1, .int x17), (0, .ref (base + 19))]) dWR_writeAll_70 rfl (Nat.le_of_ble_eq_true rfl) rfl ?_
        refine g_iload_n X dWR_writeAll_71 rfl 0 rfl ?_
        refine g_sipush X (v := (8192 : Int32)) dWR_writeAll_72 (by decide) ?_
        refine g_icmp_le X dWR_writeAll_75 (fun c => ?_) (fun c => ?_)
        · have h := h.1 c
          refine g_aload_n X dWR_writeAll_81 rfl 1 rfl ?_
          refine g_getr X hK.1 fw_WR_51 ly_19 rfl dWR_writeAll_82 ?_
          refine g_iload_n X dWR_writeAll_85 rfl 0 rfl ?_
          refine g_callVN X hK gTs_ok ly_17 rfl mw_FB_zeros nw_530 mi_FB_zeros ms_FB_zeros (As := [.int x17]) rfl ⟨(Nat.le_of_ble_eq_true rfl), (Nat.le_of_ble_eq_true rfl), Nat.le_refl _, Nat.le_refl _⟩ (m_FB_zeros h) (rest := []) rfl (Nat.le_of_ble_eq_true rfl) dWR_writeAll_86 (gk_v (fun M19 h => ?_))
          refine g_aload_n X dWR_writeAll_89 rfl 1 rfl ?_
          refine g_callV X hK gTs_ok ly_19 rfl mw_WR_putHeader tw_540 mi_WR_putHeader ms_WR_putHeader (As := []) rfl ⟨(Nat.le_of_ble_eq_true rfl), (Nat.le_of_ble_eq_true rfl), Nat.le_refl _, Nat.le_refl _⟩ (m_WR_putHeader h) (rest := []) rfl (Nat.le_of_ble_eq_true rfl) dWR_writeAll_90 (gk_v (fun M21 h => ?_))
          refine g_aload_n X dWR_writeAll_93 rfl 1 rfl ?_
          refine g_callV X hK gTs_ok ly_19 rfl mw_WR_putParts tw_569 mi_WR_putParts ms_WR_putParts (As := []) rfl ⟨(Nat.le_of_ble_eq_true rfl), (Nat.le_of_ble_eq_true rfl), Nat.le_refl _, Nat.le_refl _⟩ (m_WR_putParts h) (rest := []) rfl (Nat.le_of_ble_eq_true rfl) dWR_writeAll_94 (gk_v (fun M23 h => ?_))
          refine g_aload_n X dWR_writeAll_97 rfl 1 rfl ?_
          refine g_callV X hK gTs_ok ly_19 rfl mw_WR_putTable tw_594 mi_WR_putTable ms_WR_putTable (As := []) rfl ⟨(Nat.le_of_ble_eq_true rfl), (Nat.le_of_ble_eq_true rfl), Nat.le_refl _, Nat.le_refl _⟩ (m_WR_putTable h) (rest := []) rfl (Nat.le_of_ble_eq_true rfl) dWR_writeAll_98 (gk_v (fun M25 h => ?_))
          refine g_iload_n X dWR_writeAll_101 rfl 0 rfl ?_
          exact g_iret X hr hlk dWR_writeAll_102 ⟨_, rfl, h⟩
        · have h := h.2 c
          refine g_bipush X (v := (-4 : Int32)) dWR_writeAll_78 (by decide) ?_
          exact g_iret X hr hlk dWR_writeAll_80 ⟨_, rfl, h⟩
      · have h := h.2 c
        refine g_bipush X (v := (-3 : Int32)) dWR_writeAll_35 (by decide) ?_
        exact g_iret X hr hlk dWR_writeAll_37 ⟨_, rfl, h⟩
    · have h := h.2 c
      refine g_bipush X (v := (-2 : Int32)) dWR_writeAll_22 (by decide) ?_
      exact g_iret X hr hlk dWR_writeAll_24 ⟨_, rfl, h⟩
  · have h := h.2 c
    refine g_iconst X (v := (-1 : Int32)) dWR_writeAll_10 (by decide) ?_
    exact g_iret X hr hlk dWR_writeAll_11 ⟨_, rfl, h⟩
set_option maxRecDepth 100000 in
set_option maxHeartbeats 4000000 in
theorem m_OF_write {l : Launch} {D : va_G} {ta : Nat → ClassId} {base : Nat} {sa : Nat → Nat} {post : Int32 → gMem → Prop} {M : gMem} (h : wp_OF_write post M) : GC gLay gCl D ta base gNw sa gTabs gTs l y_OF_write b_OF_write 1 (some .int) 7 151 [.ref (base + 0)] M (gPi post) := by
  refine GC.of (own := "ObjectFile") pn_OF rfl (Nat.le_of_ble_eq_true rfl) ?_
  intro p e s m below meth c X hK hr hlk
  refine g_args (L' := [(0, .ref (base + 0))]) rfl ?_
  unfold wp_OF_write at h
  refine g_aload_n X dOF_write_0 rfl 0 rfl ?_
  refine g_getr X hK.1 fw_OF_31 ly_0 rfl dOF_write_1 ?_
  refine g_callVN X hK gTs_ok ly_19 rfl mw_WR_writeAll nw_380 mi_WR_writeAll ms_WR_writeAll (As := []) rfl ⟨(Nat.le_of_ble_eq_true rfl), (Nat.le_of_ble_eq_true rfl), Nat.le_refl _, Nat.le_refl _⟩ (m_WR_writeAll h) (rest := []) rfl (Nat.le_of_ble_eq_true rfl) dOF_write_4 (gk_i (fun r1 M2 h => ?_))
  exact g_iret X hr hlk dOF_write_7 ⟨_, rfl, h⟩
set_option maxRecDepth 100000 in
set_option maxHeartbeats 4000000 in
theorem m_OF_size {l : Launch} {D : va_G} {ta : Nat → ClassId} {base : Nat} {sa : Nat → Nat} {post : Int32 → gMem → Prop} {M : gMem} (h : wp_OF_size post M) : GC gLay gCl D ta base gNw sa gTabs gTs l y_OF_size b_OF_size 1 (some .int) 0 0 [.ref (base + 0)] M (gPi post) := by
  refine GC.of (own := "ObjectFile") pn_OF rfl (Nat.le_of_ble_eq_true rfl) ?_
  intro p e s m below meth c X hK hr hlk
  refine g_args (L' := [(0, .ref (base + 0))]) rfl ?_
  unfold wp_OF_size at h
  refine g_aload_n X dOF_size_0 rfl 0 rfl ?_
  refine g_getr X hK.1 fw_OF_22 ly_0 rfl dOF_size_1 ?_
  refine g_getiN X hK.1 (gNw_of hK) fw_OF_134 ly_17 rfl dOF_size_4 ?_
  exact g_iret X hr hlk dOF_size_7 ⟨_, rfl, h⟩
set_option maxRecDepth 100000 in
set_option maxHeartbeats 4000000 in
theorem m_FB_has {l : Launch} {D : va_G} {ta : Nat → ClassId} {base : Nat} {sa : Nat → Nat} {post : Bool → gMem → Prop} {a0 : Int32} {M : gMem} (h : wp_FB_has post a0 M) : GC gLay gCl D ta base gNw sa gTabs gTs l y_FB_has b_FB_has 2 (some .boolean) 0 0 [.ref (base + 17), .int a0] M (gPz post) := by
  refine GC.of (own := "ObjectFile$FileBytes") pn_FB rfl (Nat.le_of_ble_eq_true rfl) ?_
  intro p e s m below meth c X hK hr hlk
  refine g_args (L' := [(0, .ref (base + 17)), (1, .int a0)]) rfl ?_
  unfold wp_FB_has at h
  refine g_iload_n X dFB_has_0 rfl 1 rfl ?_
  refine g_if_lt X dFB_has_1 (fun c => ?_) (fun c => ?_)
  · have h := h.1 c
    refine g_iconst X (v := (0 : Int32)) dFB_has_16 (by decide) ?_
    exact g_zret X hr hlk (by decide) dFB_has_17 ⟨false, rfl, h⟩
  · have h := h.2 c
    refine g_iload_n X dFB_has_4 rfl 1 rfl ?_
    refine g_aload_n X dFB_has_5 rfl 0 rfl ?_
    refine g_geti X hK.1 fw_FB_15 ly_17 rfl dFB_has_6 ?_
    refine g_icmp_ge X dFB_has_9 (fun c => ?_) (fun c => ?_)
    · have h := h.1 c
      refine g_iconst X (v := (0 : Int32)) dFB_has_16 (by decide) ?_
      exact g_zret X hr hlk (by decide) dFB_has_17 ⟨false, rfl, h⟩
    · have h := h.2 c
      refine g_iconst X (v := (1 : Int32)) dFB_has_12 (by decide) ?_
      refine g_goto X dFB_has_13 ?_
      exact g_zret X hr hlk (by decide) dFB_has_17 ⟨true, rfl, h⟩
set_option maxRecDepth 100000 in
set_option maxHeartbeats 4000000 in
theorem m_FB_u1 {l : Launch} {D : va_G} {ta : Nat → ClassId} {base : Nat} {sa : Nat → Nat} {post : Int32 → gMem → Prop} {a0 : Int32} {M : gMem} (h : wp_FB_u1 post a0 M) : GC gLay gCl D ta base gNw sa gTabs gTs l y_FB_u1 b_FB_u1 2 (some .int) 0 0 [.ref (base + 17), .int a0] M (gPi post) := by
  refine GC.of (own := "ObjectFile$FileBytes") pn_FB rfl (Nat.le_of_ble_eq_true rfl) ?_
  intro p e s m below meth c X hK hr hlk
  refine g_args (L' := [(0, .ref (base + 17)), (1, .int a0)]) rfl ?_
  unfold wp_FB_u1 at h
  refine g_iload_n X dFB_u1_0 rfl 1 rfl ?_
  refine g_if_lt X dFB_u1_1 (fun c => ?_) (fun c => ?_)
  · have h := h.1 c
    refine g_iconst X (v := (0 : Int32)) dFB_u1_12 (by decide) ?_
    refine g_goto X dFB_u1_13 ?_
    exact g_iret X hr hlk dFB_u1_26 ⟨_, rfl, h⟩
  · have h := h.2 c
    refine g_iload_n X dFB_u1_4 rfl 1 rfl ?_
    refine g_aload_n X dFB_u1_5 rfl 0 rfl ?_
    refine g_geti X hK.1 fw_FB_15 ly_17 rfl dFB_u1_6 ?_
    refine g_icmp_lt X dFB_u1_9 (fun c => ?_) (fun c => ?_)
    · have h := h.1 c
      refine g_aload_n X dFB_u1_16 rfl 0 rfl ?_
      refine g_getr X hK.1 fw_FB_9 ly_17 rfl dFB_u1_17 ?_
      refine g_iload_n X dFB_u1_20 rfl 1 rfl ?_
      obtain ⟨hi, h⟩ := h
      refine g_bald X hK.1 ly_18 hi dFB_u1_21 ?_
      refine g_sipush X (v := (255 : Int32)) dFB_u1_22 (by decide) ?_
      refine g_iand X dFB_u1_25 ?_
      exact g_iret X hr hlk dFB_u1_26 ⟨_, rfl, h⟩
    · have h := h.2 c
      refine g_iconst X (v := (0 : Int32)) dFB_u1_12 (by decide) ?_
      refine g_goto X dFB_u1_13 ?_
      exact g_iret X hr hlk dFB_u1_26 ⟨_, rfl, h⟩
set_option maxRecDepth 100000 in
set_option maxHeartbeats 4000000 in
theorem m_OF_byteAt {l : Launch} {D : va_G} {ta : Nat → ClassId} {base : Nat} {sa : Nat → Nat} {post : Int32 → gMem → Prop} {a0 : Int32} {M : gMem} (h : wp_OF_byteAt post a0 M) : GC gLay gCl D ta base gNw sa gTabs gTs l y_OF_byteAt b_OF_byteAt 2 (some .int) 1 21 [.ref (base + 0), .int a0] M (gPi post) := by
  refine GC.of (own := "ObjectFile") pn_OF rfl (Nat.le_of_ble_eq_true rfl) ?_
  intro p e s m below meth c X hK hr hlk
  refine g_args (L' := [(0, .ref (base + 0)), (1, .int a0)]) rfl ?_
  unfold wp_OF_byteAt at h
  refine g_aload_n X dOF_byteAt_0 rfl 0 rfl ?_
  refine g_getr X hK.1 fw_OF_22 ly_0 rfl dOF_byteAt_1 ?_
  refine g_iload_n X dOF_byteAt_4 rfl 1 rfl ?_
  refine g_callVN X hK gTs_ok ly_17 rfl mw_FB_has nw_627 mi_FB_has ms_FB_has (As := [.int a0]) rfl ⟨(Nat.le_of_ble_eq_true rfl), (Nat.le_of_ble_eq_true rfl), Nat.le_refl _, Nat.le_refl _⟩ (m_FB_has h) (rest := []) rfl (Nat.le_of_ble_eq_true rfl) dOF_byteAt_5 (gk_z (fun r1 M2 h => ?_))
  refine g_if_eq X dOF_byteAt_8 (fun c => ?_) (fun c => ?_)
  · have h := h.1 c
    refine g_iconst X (v := (-1 : Int32)) dOF_byteAt_22 (by decide) ?_
    exact g_iret X hr hlk dOF_byteAt_23 ⟨_, rfl, h⟩
  · have h := h.2 c
    refine g_aload_n X dOF_byteAt_11 rfl 0 rfl ?_
    refine g_getr X hK.1 fw_OF_22 ly_0 rfl dOF_byteAt_12 ?_
    refine g_iload_n X dOF_byteAt_15 rfl 1 rfl ?_
    refine g_callVN X hK gTs_ok ly_17 rfl mw_FB_u1 nw_631 mi_FB_u1 ms_FB_u1 (As := [.int a0]) rfl ⟨(Nat.le_of_ble_eq_true rfl), (Nat.le_of_ble_eq_true rfl), Nat.le_refl _, Nat.le_refl _⟩ (m_FB_u1 h) (rest := []) rfl (Nat.le_of_ble_eq_true rfl) dOF_byteAt_16 (gk_i (fun r3 M4 h => ?_))
    refine g_goto X dOF_byteAt_19 ?_
    exact g_iret X hr hlk dOF_byteAt_23 ⟨_, rfl, h⟩
set_option maxRecDepth 100000 in
set_option maxHeartbeats 4000000 in
theorem m_FB_append {l : Launch} {D : va_G} {ta : Nat → ClassId} {base : Nat} {sa : Nat → Nat} {post : Bool → gMem → Prop} {a0 : Int32} {a1 : Int64} {M : gMem} (h : wp_FB_append post a0 a1 M) : GC gLay gCl D ta base gNw sa gTabs gTs l y_FB_append b_FB_append 5 (some .boolean) 0 0 [.ref (base + 17), .int a0, .long a1] M (gPz post) := by
  refine GC.of (own := "ObjectFile$FileBytes") pn_FB rfl (Nat.le_of_ble_eq_true rfl) ?_
  intro p e s m below meth c X hK hr hlk
  have r_28 : ∀ (n : Nat) (v1 : Int32) (v2 : Int64) (v4 : Int32) (M : gMem), wl_FB_append_28 post n v1 v2 v4 M → GMx D ta base p l e 0 0 s m [.ref (base + 17), .int a0, .long a1] below meth c (gPz post) 5 28 [(0, .ref (base + 17)), (1, .int v1), (2, .long v2), (4, .int v4)] [] M := by
    intro n
    induction n with
    | zero => exact fun _ _ _ M h => h.elim
    | succ n ih =>
      intro v1 v2 v4 M h
      refine g_iload X dFB_append_28 3 rfl ?_
      refine g_iload_n X dFB_append_30 rfl 1 rfl ?_
      refine g_icmp_ge X dFB_append_31 (fun c => ?_) (fun c => ?_)
      · have h := h.1 c
        refine g_iconst X (v := (1 : Int32)) dFB_append_71 (by decide) ?_
        exact g_zret X hr hlk (by decide) dFB_append_72 ⟨true, rfl, h⟩
      · have h := h.2 c
        refine g_aload_n X dFB_append_34 rfl 0 rfl ?_
        refine g_getr X hK.1 fw_FB_9 ly_17 rfl dFB_append_35 ?_
        refine g_aload_n X dFB_append_38 rfl 0 rfl ?_
        refine g_geti X hK.1 fw_FB_15 ly_17 rfl dFB_append_39 ?_
        refine g_lload_n X dFB_append_42 rfl 2 rfl ?_
        refine g_bipush X (v := (56 : Int32)) dFB_append_43 (by decide) ?_
        refine g_bipush X (v := (8 : Int32)) dFB_append_45 (by decide) ?_
        refine g_iload X dFB_append_47 3 rfl ?_
        refine g_imul X dFB_append_49 ?_
        refine g_isub X dFB_append_50 ?_
        refine g_lushr X dFB_append_51 rfl ?_
        refine g_l2i X dFB_append_52 rfl ?_
        refine g_i2b X dFB_append_53 rfl ?_
        obtain ⟨hi, h⟩ := h
        refine g_bast X hK.1 ly_18 hi dFB_append_54 ?_
        refine g_topM (fun M1 eM1 => ?_)
        have h := h M1 eM1
        refine g_aload_n X dFB_append_55 rfl 0 rfl ?_
        refine g_dup X dFB_append_56 rfl ?_
        refine g_geti X hK.1 fw_FB_15 ly_17 rfl dFB_append_57 ?_
        refine g_iconst X (v := (1 : Int32)) dFB_append_60 (by decide) ?_
        refine g_iadd X dFB_append_61 ?_
        refine g_puti X hK.1 fw_FB_15 pw_FB_1 ly_17 rfl dFB_append_62 ?_
        refine g_topM (fun M2 eM2 => ?_)
        have h := h M2 eM2
        obtain ⟨x3, ex3⟩ : ∃ z : Int32, z = v4 + (1 : Int32) := ⟨_, rfl⟩
        have h := h x3 ex3
        refine g_iinc X (L' := [(4, .int x3), (0, .ref (base + 17)), (1, .int v1), (2, .long v2)]) (k := 3) dFB_append_65 rfl (v := x3) (by rw [ex3]; rfl) (Nat.le_of_ble_eq_true rfl) rfl ?_
        refine g_goto X dFB_append_68 ?_
        refine g_sub (L' := [(0, .ref (base + 17)), (1, .int v1), (2, .long v2), (4, .int x3)]) [1, 2, 3, 0] rfl ?_
        exact ih v1 v2 x3 M2 h
  refine g_args (L' := [(0, .ref (base + 17)), (1, .int a0), (2, .long a1)]) rfl ?_
  unfold wp_FB_append at h
  refine g_iload_n X dFB_append_0 rfl 1 rfl ?_
  refine g_iconst X (v := (1 : Int32)) dFB_append_1 (by decide) ?_
  refine g_icmp_lt X dFB_append_2 (fun c => ?_) (fun c => ?_)
  · have h := h.1 c
    refine g_iconst X (v := (0 : Int32)) dFB_append_23 (by decide) ?_
    exact g_zret X hr hlk (by decide) dFB_append_24 ⟨false, rfl, h⟩
  · have h := h.2 c
    refine g_iload_n X dFB_append_5 rfl 1 rfl ?_
    refine g_bipush X (v := (8 : Int32)) dFB_append_6 (by decide) ?_
    refine g_icmp_gt X dFB_append_8 (fun c => ?_) (fun c => ?_)
    · have h := h.1 c
      refine g_iconst X (v := (0 : Int32)) dFB_append_23 (by decide) ?_
      exact g_zret X hr hlk (by decide) dFB_append_24 ⟨false, rfl, h⟩
    · have h := h.2 c
      refine g_aload_n X dFB_append_11 rfl 0 rfl ?_
      refine g_geti X hK.1 fw_FB_15 ly_17 rfl dFB_append_12 ?_
      refine g_iload_n X dFB_append_15 rfl 1 rfl ?_
      refine g_iadd X dFB_append_16 ?_
      refine g_sipush X (v := (8192 : Int32)) dFB_append_17 (by decide) ?_
      refine g_icmp_le X dFB_append_20 (fun c => ?_) (fun c => ?_)
      · have h := h.1 c
        refine g_iconst X (v := (0 : Int32)) dFB_append_25 (by decide) ?_
        refine g_istore X (L' := [(4, .int (0 : Int32)), (0, .ref (base + 17)), (1, .int a0), (2, .long a1)]) dFB_append_26 (Nat.le_of_ble_eq_true rfl) rfl ?_
        refine g_sub (L' := [(0, .ref (base + 17)), (1, .int a0), (2, .long a1), (4, .int (0 : Int32))]) [1, 2, 3, 0] rfl ?_
        obtain ⟨n9, h⟩ := h
        exact r_28 n9 a0 a1 (0 : Int32) M h
      · have h := h.2 c
        refine g_iconst X (v := (0 : Int32)) dFB_append_23 (by decide) ?_
        exact g_zret X hr hlk (by decide) dFB_append_24 ⟨false, rfl, h⟩
set_option maxRecDepth 100000 in
set_option maxHeartbeats 4000000 in
theorem m_OF_feed {l : Launch} {D : va_G} {ta : Nat → ClassId} {base : Nat} {sa : Nat → Nat} {post : Bool → gMem → Prop} {a0 : Int32} {a1 : Int64} {M : gMem} (h : wp_OF_feed post a0 a1 M) : GC gLay gCl D ta base gNw sa gTabs gTs l y_OF_feed b_OF_feed 4 (some .boolean) 1 24 [.ref (base + 0), .int a0, .long a1] M (gPz post) := by
  refine GC.of (own := "ObjectFile") pn_OF rfl (Nat.le_of_ble_eq_true rfl) ?_
  intro p e s m below meth c X hK hr hlk
  refine g_args (L' := [(0, .ref (base + 0)), (1, .int a0), (2, .long a1)]) rfl ?_
  unfold wp_OF_feed at h
  refine g_aload_n X dOF_feed_0 rfl 0 rfl ?_
  refine g_getr X hK.1 fw_OF_22 ly_0 rfl dOF_feed_1 ?_
  refine g_iload_n X dOF_feed_4 rfl 1 rfl ?_
  refine g_lload_n X dOF_feed_5 rfl 2 rfl ?_
  refine g_callVN X hK gTs_ok ly_17 rfl mw_FB_append nw_639 mi_FB_append ms_FB_append (As := [.int a0, .long a1]) rfl ⟨(Nat.le_of_ble_eq_true rfl), (Nat.le_of_ble_eq_true rfl), Nat.le_refl _, Nat.le_refl _⟩ (m_FB_append h) (rest := []) rfl (Nat.le_of_ble_eq_true rfl) dOF_feed_6 (gk_z (fun r1 M2 h => ?_))
  exact g_zret X hr hlk (bI_n r1) dOF_feed_9 ⟨r1, rfl, h⟩
set_option maxRecDepth 100000 in
set_option maxHeartbeats 4000000 in
theorem m_OF_cut {l : Launch} {D : va_G} {ta : Nat → ClassId} {base : Nat} {sa : Nat → Nat} {post : Bool → gMem → Prop} {a0 : Int32} {M : gMem} (h : wp_OF_cut post a0 M) : GC gLay gCl D ta base gNw sa gTabs gTs l y_OF_cut b_OF_cut 2 (some .boolean) 0 0 [.ref (base + 0), .int a0] M (gPz post) := by
  refine GC.of (own := "ObjectFile") pn_OF rfl (Nat.le_of_ble_eq_true rfl) ?_
  intro p e s m below meth c X hK hr hlk
  refine g_args (L' := [(0, .ref (base + 0)), (1, .int a0)]) rfl ?_
  unfold wp_OF_cut at h
  refine g_iload_n X dOF_cut_0 rfl 1 rfl ?_
  refine g_if_lt X dOF_cut_1 (fun c => ?_) (fun c => ?_)
  · have h := h.1 c
    refine g_iconst X (v := (0 : Int32)) dOF_cut_15 (by decide) ?_
    exact g_zret X hr hlk (by decide) dOF_cut_16 ⟨false, rfl, h⟩
  · have h := h.2 c
    refine g_iload_n X dOF_cut_4 rfl 1 rfl ?_
    refine g_aload_n X dOF_cut_5 rfl 0 rfl ?_
    refine g_getr X hK.1 fw_OF_22 ly_0 rfl dOF_cut_6 ?_
    refine g_getiN X hK.1 (gNw_of hK) fw_OF_134 ly_17 rfl dOF_cut_9 ?_
    refine g_icmp_le X dOF_cut_12 (fun c => ?_) (fun c => ?_)
    · have h := h.1 c
      refine g_aload_n X dOF_cut_17 rfl 0 rfl ?_
      refine g_getr X hK.1 fw_OF_22 ly_0 rfl dOF_cut_18 ?_
      refine g_iload_n X dOF_cut_21 rfl 1 rfl ?_
      refine g_putiN X hK.1 (gNw_of hK) fw_OF_134 pw_FB_1 ly_17 rfl dOF_cut_22 ?_
      refine g_topM (fun M1 eM1 => ?_)
      have h := h M1 eM1
      refine g_iconst X (v := (1 : Int32)) dOF_cut_25 (by decide) ?_
      exact g_zret X hr hlk (by decide) dOF_cut_26 ⟨true, rfl, h⟩
    · have h := h.2 c
      refine g_iconst X (v := (0 : Int32)) dOF_cut_15 (by decide) ?_
      exact g_zret X hr hlk (by decide) dOF_cut_16 ⟨false, rfl, h⟩
set_option maxRecDepth 100000 in
set_option maxHeartbeats 4000000 in
theorem m_OF_spoil {l : Launch} {D : va_G} {ta : Nat → ClassId} {base : Nat} {sa : Nat → Nat} {post : Int32 → gMem → Prop} {a0 : Int32} {a1 : Int32} {M : gMem} (h : wp_OF_spoil post a0 a1 M) : GC gLay gCl D ta base gNw sa gTabs gTs l y_OF_spoil b_OF_spoil 4 (some .int) 1 22 [.ref (base + 0), .int a0, .int a1] M (gPi post) := by
  refine GC.of (own := "ObjectFile") pn_OF rfl (Nat.le_of_ble_eq_true rfl) ?_
  intro p e s m below meth c X hK hr hlk
  refine g_args (L' := [(0, .ref (base + 0)), (1, .int a0), (2, .int a1)]) rfl ?_
  unfold wp_OF_spoil at h
  refine g_aload_n X dOF_spoil_0 rfl 0 rfl ?_
  refine g_getr X hK.1 fw_OF_22 ly_0 rfl dOF_spoil_1 ?_
  refine g_iload_n X dOF_spoil_4 rfl 1 rfl ?_
  refine g_callVN X hK gTs_ok ly_17 rfl mw_FB_has nw_627 mi_FB_has ms_FB_has (As := [.int a0]) rfl ⟨(Nat.le_of_ble_eq_true rfl), (Nat.le_of_ble_eq_true rfl), Nat.le_refl _, Nat.le_refl _⟩ (m_FB_has h) (rest := []) rfl (Nat.le_of_ble_eq_true rfl) dOF_spoil_5 (gk_z (fun r1 M2 h => ?_))
  refine g_if_ne X dOF_spoil_8 (fun c => ?_) (fun c => ?_)
  · have h := h.1 c
    refine g_aload_n X dOF_spoil_13 rfl 0 rfl ?_
    refine g_getr X hK.1 fw_OF_22 ly_0 rfl dOF_spoil_14 ?_
    refine g_iload_n X dOF_spoil_17 rfl 1 rfl ?_
    refine g_callVN X hK gTs_ok ly_17 rfl mw_FB_u1 nw_631 mi_FB_u1 ms_FB_u1 (As := [.int a0]) rfl ⟨(Nat.le_of_ble_eq_true rfl), (Nat.le_of_ble_eq_true rfl), Nat.le_refl _, Nat.le_refl _⟩ (m_FB_u1 h) (rest := []) rfl (Nat.le_of_ble_eq_true rfl) dOF_spoil_18 (gk_i (fun r3 M4 h => ?_))
    refine g_istore_n X (L' := [(3, .int r3), (0, .ref (base + 0)), (1, .int a0), (2, .int a1)]) dOF_spoil_21 rfl (Nat.le_of_ble_eq_true rfl) rfl ?_
    refine g_aload_n X dOF_spoil_22 rfl 1 rfl ?_
    refine g_getr X hK.1 fw_OF_22 ly_0 rfl dOF_spoil_23 ?_
    refine g_iload_n X dOF_spoil_26 rfl 2 rfl ?_
    refine g_iload_n X dOF_spoil_27 rfl 3 rfl ?_
    refine g_callVN X hK gTs_ok ly_17 rfl mw_FB_put1 nw_651 mi_FB_put1 ms_FB_put1 (As := [.int a0, .int a1]) rfl ⟨(Nat.le_of_ble_eq_true rfl), (Nat.le_of_ble_eq_true rfl), Nat.le_refl _, Nat.le_refl _⟩ (m_FB_put1 h) (rest := []) rfl (Nat.le_of_ble_eq_true rfl) dOF_spoil_28 (gk_v (fun M6 h => ?_))
    refine g_iload_n X dOF_spoil_31 rfl 0 rfl ?_
    exact g_iret X hr hlk dOF_spoil_32 ⟨_, rfl, h⟩
  · have h := h.2 c
    refine g_iconst X (v := (-1 : Int32)) dOF_spoil_11 (by decide) ?_
    exact g_iret X hr hlk dOF_spoil_12 ⟨_, rfl, h⟩
set_option maxRecDepth 100000 in
set_option maxHeartbeats 4000000 in
theorem m_FB_u2 {l : Launch} {D : va_G} {ta : Nat → ClassId} {base : Nat} {sa : Nat → Nat} {post : Int32 → gMem → Prop} {a0 : Int32} {M : gMem} (h : wp_FB_u2 post a0 M) : GC gLay gCl D ta base gNw sa gTabs gTs l y_FB_u2 b_FB_u2 2 (some .int) 0 0 [.ref (base + 17), .int a0] M (gPi post) := by
  refine GC.of (own := "ObjectFile$FileBytes") pn_FB rfl (Nat.le_of_ble_eq_true rfl) ?_
  intro p e s m below meth c X hK hr hlk
  refine g_args (L' := [(0, .ref (base + 17)), (1, .int a0)]) rfl ?_
  unfold wp_FB_u2 at h
  refine g_iload_n X dFB_u2_0 rfl 1 rfl ?_
  refine g_if_lt X dFB_u2_1 (fun c => ?_) (fun c => ?_)
  · have h := h.1 c
    refine g_iconst X (v := (0 : Int32)) dFB_u2_14 (by decide) ?_
    refine g_goto X dFB_u2_15 ?_
    exact g_iret X hr hlk dFB_u2_44 ⟨_, rfl, h⟩
  · have h := h.2 c
    refine g_iload_n X dFB_u2_4 rfl 1 rfl ?_
    refine g_aload_n X dFB_u2_5 rfl 0 rfl ?_
    refine g_geti X hK.1 fw_FB_15 ly_17 rfl dFB_u2_6 ?_
    refine g_iconst X (v := (1 : Int32)) dFB_u2_9 (by decide) ?_
    refine g_isub X dFB_u2_10 ?_
    refine g_icmp_lt X dFB_u2_11 (fun c => ?_) (fun c => ?_)
    · have h := h.1 c
      refine g_aload_n X dFB_u2_18 rfl 0 rfl ?_
      refine g_getr X hK.1 fw_FB_9 ly_17 rfl dFB_u2_19 ?_
      refine g_iload_n X dFB_u2_22 rfl 1 rfl ?_
      obtain ⟨hi, h⟩ := h
      refine g_bald X hK.1 ly_18 hi dFB_u2_23 ?_
      refine g_sipush X (v := (255 : Int32)) dFB_u2_24 (by decide) ?_
      refine g_iand X dFB_u2_27 ?_
      refine g_aload_n X dFB_u2_28 rfl 0 rfl ?_
      refine g_getr X hK.1 fw_FB_9 ly_17 rfl dFB_u2_29 ?_
      refine g_iload_n X dFB_u2_32 rfl 1 rfl ?_
      refine g_iconst X (v := (1 : Int32)) dFB_u2_33 (by decide) ?_
      refine g_iadd X dFB_u2_34 ?_
      obtain ⟨hi, h⟩ := h
      refine g_bald X hK.1 ly_18 hi dFB_u2_35 ?_
      refine g_sipush X (v := (255 : Int32)) dFB_u2_36 (by decide) ?_
      refine g_iand X dFB_u2_39 ?_
      refine g_bipush X (v := (8 : Int32)) dFB_u2_40 (by decide) ?_
      refine g_ishl X dFB_u2_42 ?_
      refine g_ior X dFB_u2_43 ?_
      exact g_iret X hr hlk dFB_u2_44 ⟨_, rfl, h⟩
    · have h := h.2 c
      refine g_iconst X (v := (0 : Int32)) dFB_u2_14 (by decide) ?_
      refine g_goto X dFB_u2_15 ?_
      exact g_iret X hr hlk dFB_u2_44 ⟨_, rfl, h⟩
