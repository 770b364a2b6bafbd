set_option maxRecDepth 100000 in
set_option maxHeartbeats 4000000 in
theorem m_CT_addSymbol_s_18 {l : Launch} {D : va_G} {ta : Nat → ClassId} {base : Nat} {sa : Nat → Nat} {post : Int32 → gMem → Prop} {a1 : Int32} {a2 : Int32} {M : gMem} (h : wp_CT_addSymbol_s_18 post a1 a2 M) : GC gLay gCl D ta base gNw sa gTabs gTs l y_CT_addSymbol b_CT_addSymbol 5 (some .int) 1 18 [.ref (base + 9), .ref (base + 18), .int a1, .int a2] M (gPi post) := by
  refine GC.of (own := "ObjectFile$Contents") pn_CT rfl (Nat.le_of_ble_eq_true rfl) ?_
  intro p e s m below meth c X hK hr hlk
  refine g_args (L' := [(0, .ref (base + 9)), (1, .ref (base + 18)), (2, .int a1), (3, .int a2)]) rfl ?_
  unfold wp_CT_addSymbol_s_18 at h
  refine g_aload_n X dCT_addSymbol_0 rfl 0 rfl ?_
  refine g_geti X hK.1 fw_CT_44 ly_9 rfl dCT_addSymbol_1 ?_
  refine g_if_lt X dCT_addSymbol_4 (fun c => ?_) (fun c => ?_)
  · have h := h.1 c
    refine g_iconst X (v := (-1 : Int32)) dCT_addSymbol_27 (by decide) ?_
    exact g_iret X hr hlk dCT_addSymbol_28 ⟨_, rfl, h⟩
  · have h := h.2 c
    refine g_aload_n X dCT_addSymbol_7 rfl 0 rfl ?_
    refine g_geti X hK.1 fw_CT_44 ly_9 rfl dCT_addSymbol_8 ?_
    refine g_bipush X (v := (100 : Int32)) dCT_addSymbol_11 (by decide) ?_
    refine g_icmp_ge X dCT_addSymbol_13 (fun c => ?_) (fun c => ?_)
    · have h := h.1 c
      refine g_iconst X (v := (-1 : Int32)) dCT_addSymbol_27 (by decide) ?_
      exact g_iret X hr hlk dCT_addSymbol_28 ⟨_, rfl, h⟩
    · have h := h.2 c
      refine g_iload_n X dCT_addSymbol_16 rfl 3 rfl ?_
      refine g_iconst X (v := (1 : Int32)) dCT_addSymbol_17 (by decide) ?_
      refine g_icmp_lt X dCT_addSymbol_18 (fun c => ?_) (fun c => ?_)
      · have h := h.1 c
        refine g_iconst X (v := (-1 : Int32)) dCT_addSymbol_27 (by decide) ?_
        exact g_iret X hr hlk dCT_addSymbol_28 ⟨_, rfl, h⟩
      · have h := h.2 c
        refine g_iload_n X dCT_addSymbol_21 rfl 3 rfl ?_
        refine g_bipush X (v := (16 : Int32)) dCT_addSymbol_22 (by decide) ?_
        refine g_icmp_le X dCT_addSymbol_24 (fun c => ?_) (fun c => ?_)
        · have h := h.1 c
          refine g_iload_n X dCT_addSymbol_29 rfl 2 rfl ?_
          refine g_if_lt X dCT_addSymbol_30 (fun c => ?_) (fun c => ?_)
          · have h := h.1 c
            refine g_iconst X (v := (-1 : Int32)) dCT_addSymbol_41 (by decide) ?_
            exact g_iret X hr hlk dCT_addSymbol_42 ⟨_, rfl, h⟩
          · have h := h.2 c
            refine g_iload_n X dCT_addSymbol_33 rfl 2 rfl ?_
            refine g_aload_n X dCT_addSymbol_34 rfl 1 rfl ?_
            refine g_alen X hK.1 ly_18 (by decide) (v := (8192 : Int32)) (by decide) dCT_addSymbol_35 ?_
            refine g_iload_n X dCT_addSymbol_36 rfl 3 rfl ?_
            refine g_isub X dCT_addSymbol_37 ?_
            refine g_icmp_le X dCT_addSymbol_38 (fun c => ?_) (fun c => ?_)
            · have h := h.1 c
              refine g_aload_n X dCT_addSymbol_43 rfl 0 rfl ?_
              refine g_geti X hK.1 fw_CT_44 ly_9 rfl dCT_addSymbol_44 ?_
              refine g_topi (fun x1 ex1 => ?_)
              have h := h x1 ex1
              refine g_istore X (L' := [(4, .int x1), (0, .ref (base + 9)), (1, .ref (base + 18)), (2, .int a1), (3, .int a2)]) dCT_addSymbol_47 (Nat.le_of_ble_eq_true rfl) rfl ?_
              refine g_aload_n X dCT_addSymbol_49 rfl 1 rfl ?_
              refine g_dup X dCT_addSymbol_50 rfl ?_
              refine g_geti X hK.1 fw_CT_44 ly_9 rfl dCT_addSymbol_51 ?_
              refine g_iconst X (v := (1 : Int32)) dCT_addSymbol_54 (by decide) ?_
              refine g_iadd X dCT_addSymbol_55 ?_
              refine g_puti X hK.1 fw_CT_44 pw_CT_7 ly_9 rfl dCT_addSymbol_56 ?_
              refine g_topM (fun M2 eM2 => ?_)
              have h := h M2 eM2
              refine g_aload_n X dCT_addSymbol_59 rfl 2 rfl ?_
              refine g_iload_n X dCT_addSymbol_60 rfl 3 rfl ?_
              refine g_aload_n X dCT_addSymbol_61 rfl 1 rfl ?_
              refine g_getr X hK.1 fw_CT_28 ly_9 rfl dCT_addSymbol_62 ?_
              refine g_iload X dCT_addSymbol_65 0 rfl ?_
              refine g_bipush X (v := (16 : Int32)) dCT_addSymbol_67 (by decide) ?_
              refine g_imul X dCT_addSymbol_69 ?_
              refine g_iload_n X dCT_addSymbol_70 rfl 4 rfl ?_
              obtain ⟨q1, q2, q3, q4, q5, q6, h⟩ := h
              refine g_copyb X hK.1 tw_349 tw_351 tw_350 tw_11 ly_18 ly_15 q1 q2 q3 q4 q5 q6 (Nat.le_of_ble_eq_true rfl) (Nat.le_of_ble_eq_true rfl) dCT_addSymbol_71 ?_
              refine g_topM (fun M3 eM3 => ?_)
              have h := h M3 eM3
              refine g_aload_n X dCT_addSymbol_74 rfl 1 rfl ?_
              refine g_getr X hK.1 fw_CT_25 ly_9 rfl dCT_addSymbol_75 ?_
              refine g_iload X dCT_addSymbol_78 0 rfl ?_
              refine g_bipush X (v := (6 : Int32)) dCT_addSymbol_80 (by decide) ?_
              refine g_imul X dCT_addSymbol_82 ?_
              refine g_iconst X (v := (5 : Int32)) dCT_addSymbol_83 (by decide) ?_
              refine g_iadd X dCT_addSymbol_84 ?_
              refine g_iload_n X dCT_addSymbol_85 rfl 4 rfl ?_
              obtain ⟨hi, h⟩ := h
              refine g_iast X hK.1 ly_14 hi dCT_addSymbol_86 ?_
              refine g_topM (fun M4 eM4 => ?_)
              have h := h M4 eM4
              refine g_iload X dCT_addSymbol_87 0 rfl ?_
              exact g_iret X hr hlk dCT_addSymbol_89 ⟨_, rfl, h⟩
            · have h := h.2 c
              refine g_iconst X (v := (-1 : Int32)) dCT_addSymbol_41 (by decide) ?_
              exact g_iret X hr hlk dCT_addSymbol_42 ⟨_, rfl, h⟩
        · have h := h.2 c
          refine g_iconst X (v := (-1 : Int32)) dCT_addSymbol_27 (by decide) ?_
          exact g_iret X hr hlk dCT_addSymbol_28 ⟨_, rfl, h⟩
set_option maxRecDepth 100000 in
set_option maxHeartbeats 4000000 in
theorem m_DI_sectionOf {l : Launch} {D : va_G} {ta : Nat → ClassId} {base : Nat} {sa : Nat → Nat} {post : Int32 → gMem → Prop} {a0 : Int32} {M : gMem} (h : wp_DI_sectionOf post a0 M) : GC gLay gCl D ta base gNw sa gTabs gTs l y_DI_sectionOf b_DI_sectionOf 2 (some .int) 0 0 [.ref (base + 33), .int a0] M (gPi post) := by
  refine GC.of (own := "ObjectFile$Directory") pn_DI rfl (Nat.le_of_ble_eq_true rfl) ?_
  intro p e s m below meth c X hK hr hlk
  refine g_args (L' := [(0, .ref (base + 33)), (1, .int a0)]) rfl ?_
  unfold wp_DI_sectionOf at h
  refine g_iload_n X dDI_sectionOf_0 rfl 1 rfl ?_
  refine g_iconst X (v := (1 : Int32)) dDI_sectionOf_1 (by decide) ?_
  refine g_icmp_lt X dDI_sectionOf_2 (fun c => ?_) (fun c => ?_)
  · have h := h.1 c
    refine g_iconst X (v := (-1 : Int32)) dDI_sectionOf_19 (by decide) ?_
    exact g_iret X hr hlk dDI_sectionOf_20 ⟨_, rfl, h⟩
  · have h := h.2 c
    refine g_iload_n X dDI_sectionOf_5 rfl 1 rfl ?_
    refine g_aload_n X dDI_sectionOf_6 rfl 0 rfl ?_
    refine g_geti X hK.1 fw_DI_51 ly_33 rfl dDI_sectionOf_7 ?_
    refine g_icmp_ge X dDI_sectionOf_10 (fun c => ?_) (fun c => ?_)
    · have h := h.1 c
      refine g_iconst X (v := (-1 : Int32)) dDI_sectionOf_19 (by decide) ?_
      exact g_iret X hr hlk dDI_sectionOf_20 ⟨_, rfl, h⟩
    · have h := h.2 c
      refine g_iload_n X dDI_sectionOf_13 rfl 1 rfl ?_
      refine g_bipush X (v := (16 : Int32)) dDI_sectionOf_14 (by decide) ?_
      refine g_icmp_lt X dDI_sectionOf_16 (fun c => ?_) (fun c => ?_)
      · have h := h.1 c
        refine g_aload_n X dDI_sectionOf_21 rfl 0 rfl ?_
        refine g_getr X hK.1 fw_DI_9 ly_33 rfl dDI_sectionOf_22 ?_
        refine g_iload_n X dDI_sectionOf_25 rfl 1 rfl ?_
        obtain ⟨hi, h⟩ := h
        refine g_iald X hK.1 ly_34 hi dDI_sectionOf_26 ?_
        refine g_iconst X (v := (3 : Int32)) dDI_sectionOf_27 (by decide) ?_
        refine g_icmp_gt X dDI_sectionOf_28 (fun c => ?_) (fun c => ?_)
        · have h := h.1 c
          refine g_iconst X (v := (-1 : Int32)) dDI_sectionOf_40 (by decide) ?_
          exact g_iret X hr hlk dDI_sectionOf_41 ⟨_, rfl, h⟩
        · have h := h.2 c
          refine g_aload_n X dDI_sectionOf_31 rfl 0 rfl ?_
          refine g_getr X hK.1 fw_DI_9 ly_33 rfl dDI_sectionOf_32 ?_
          refine g_iload_n X dDI_sectionOf_35 rfl 1 rfl ?_
          obtain ⟨hi, h⟩ := h
          refine g_iald X hK.1 ly_34 hi dDI_sectionOf_36 ?_
          refine g_goto X dDI_sectionOf_37 ?_
          exact g_iret X hr hlk dDI_sectionOf_41 ⟨_, rfl, h⟩
      · have h := h.2 c
        refine g_iconst X (v := (-1 : Int32)) dDI_sectionOf_19 (by decide) ?_
        exact g_iret X hr hlk dDI_sectionOf_20 ⟨_, rfl, h⟩
set_option maxRecDepth 100000 in
set_option maxHeartbeats 4000000 in
theorem m_RE_whereOf {l : Launch} {D : va_G} {ta : Nat → ClassId} {base : Nat} {sa : Nat → Nat} {post : Int32 → gMem → Prop} {a0 : Int32} {M : gMem} (h : wp_RE_whereOf post a0 M) : GC gLay gCl D ta base gNw sa gTabs gTs l y_RE_whereOf b_RE_whereOf 4 (some .int) 1 21 [.ref (base + 39), .int a0] M (gPi post) := by
  refine GC.of (own := "ObjectFile$Reader") pn_RE rfl (Nat.le_of_ble_eq_true rfl) ?_
  intro p e s m below meth c X hK hr hlk
  refine g_args (L' := [(0, .ref (base + 39)), (1, .int a0)]) rfl ?_
  unfold wp_RE_whereOf at h
  refine g_aload_n X dRE_whereOf_0 rfl 0 rfl ?_
  refine g_getr X hK.1 fw_RE_9 ly_39 rfl dRE_whereOf_1 ?_
  refine g_iload_n X dRE_whereOf_4 rfl 1 rfl ?_
  refine g_bipush X (v := (14 : Int32)) dRE_whereOf_5 (by decide) ?_
  refine g_iadd X dRE_whereOf_7 ?_
  refine g_callVN X hK gTs_ok ly_17 rfl mw_FB_u2 nw_818 mi_FB_u2 ms_FB_u2 (As := [.int (a0 + (14 : Int32))]) rfl ⟨(Nat.le_of_ble_eq_true rfl), (Nat.le_of_ble_eq_true rfl), Nat.le_refl _, Nat.le_refl _⟩ (m_FB_u2 h) (rest := []) rfl (Nat.le_of_ble_eq_true rfl) dRE_whereOf_8 (gk_i (fun r1 M2 h => ?_))
  refine g_istore_n X (L' := [(2, .int r1), (0, .ref (base + 39)), (1, .int a0)]) dRE_whereOf_11 rfl (Nat.le_of_ble_eq_true rfl) rfl ?_
  refine g_iload_n X dRE_whereOf_12 rfl 0 rfl ?_
  refine g_lookup X (dt := 54) [((0 : Int32), 48), ((65521 : Int32), 50), ((65522 : Int32), 52)] dRE_whereOf_13.1 (by decide +kernel) (by decide +kernel) (by decide) ?_
  refine gSw_cons (fun c => ?_) (fun c => ?_)
  · have h := h.1 c
    refine g_iconst X (v := (-1 : Int32)) dRE_whereOf_48 (by decide) ?_
    exact g_iret X hr hlk dRE_whereOf_49 ⟨_, rfl, h⟩
  · have h := h.2 c
    refine gSw_cons (fun c => ?_) (fun c => ?_)
    · have h := h.1 c
      refine g_iconst X (v := (4 : Int32)) dRE_whereOf_50 (by decide) ?_
      exact g_iret X hr hlk dRE_whereOf_51 ⟨_, rfl, h⟩
    · have h := h.2 c
      refine gSw_cons (fun c => ?_) (fun c => ?_)
      · have h := h.1 c
        refine g_iconst X (v := (5 : Int32)) dRE_whereOf_52 (by decide) ?_
        exact g_iret X hr hlk dRE_whereOf_53 ⟨_, rfl, h⟩
      · have h := h.2 c
        refine gSw_nil ?_
        refine g_aload_n X dRE_whereOf_54 rfl 1 rfl ?_
        refine g_getr X hK.1 fw_RE_19 ly_39 rfl dRE_whereOf_55 ?_
        refine g_iload_n X dRE_whereOf_58 rfl 0 rfl ?_
        refine g_callVN X hK gTs_ok ly_33 rfl mw_DI_sectionOf nw_819 mi_DI_sectionOf ms_DI_sectionOf (As := [.int r1]) rfl ⟨(Nat.le_of_ble_eq_true rfl), (Nat.le_of_ble_eq_true rfl), Nat.le_refl _, Nat.le_refl _⟩ (m_DI_sectionOf h) (rest := []) rfl (Nat.le_of_ble_eq_true rfl) dRE_whereOf_59 (gk_i (fun r3 M4 h => ?_))
        refine g_istore_n X (L' := [(3, .int r3), (2, .int r1), (0, .ref (base + 39)), (1, .int a0)]) dRE_whereOf_62 rfl (Nat.le_of_ble_eq_true rfl) rfl ?_
        refine g_iload_n X dRE_whereOf_63 rfl 0 rfl ?_
        refine g_iconst X (v := (-1 : Int32)) dRE_whereOf_64 (by decide) ?_
        refine g_icmp_ne X dRE_whereOf_65 (fun c => ?_) (fun c => ?_)
        · have h := h.1 c
          refine g_iload_n X dRE_whereOf_73 rfl 0 rfl ?_
          exact g_iret X hr hlk dRE_whereOf_74 ⟨_, rfl, h⟩
        · have h := h.2 c
          refine g_bipush X (v := (6 : Int32)) dRE_whereOf_68 (by decide) ?_
          refine g_goto X dRE_whereOf_70 ?_
          exact g_iret X hr hlk dRE_whereOf_74 ⟨_, rfl, h⟩
set_option maxRecDepth 100000 in
set_option maxHeartbeats 4000000 in
theorem m_RE_bindOf {l : Launch} {D : va_G} {ta : Nat → ClassId} {base : Nat} {sa : Nat → Nat} {post : Int32 → gMem → Prop} {a0 : Int32} {M : gMem} (h : wp_RE_bindOf post a0 M) : GC gLay gCl D ta base gNw sa gTabs gTs l y_RE_bindOf b_RE_bindOf 2 (some .int) 1 21 [.ref (base + 39), .int a0] M (gPi post) := by
  refine GC.of (own := "ObjectFile$Reader") pn_RE rfl (Nat.le_of_ble_eq_true rfl) ?_
  intro p e s m below meth c X hK hr hlk
  refine g_args (L' := [(0, .ref (base + 39)), (1, .int a0)]) rfl ?_
  unfold wp_RE_bindOf at h
  refine g_aload_n X dRE_bindOf_0 rfl 0 rfl ?_
  refine g_getr X hK.1 fw_RE_9 ly_39 rfl dRE_bindOf_1 ?_
  refine g_iload_n X dRE_bindOf_4 rfl 1 rfl ?_
  refine g_bipush X (v := (12 : Int32)) dRE_bindOf_5 (by decide) ?_
  refine g_iadd X dRE_bindOf_7 ?_
  refine g_callVN X hK gTs_ok ly_17 rfl mw_FB_u1 nw_785 mi_FB_u1 ms_FB_u1 (As := [.int (a0 + (12 : Int32))]) rfl ⟨(Nat.le_of_ble_eq_true rfl), (Nat.le_of_ble_eq_true rfl), Nat.le_refl _, Nat.le_refl _⟩ (m_FB_u1 h) (rest := []) rfl (Nat.le_of_ble_eq_true rfl) dRE_bindOf_8 (gk_i (fun r1 M2 h => ?_))
  refine g_iconst X (v := (4 : Int32)) dRE_bindOf_11 (by decide) ?_
  refine g_iushr X dRE_bindOf_12 rfl ?_
  exact g_iret X hr hlk dRE_bindOf_13 ⟨_, rfl, h⟩
set_option maxRecDepth 100000 in
set_option maxHeartbeats 4000000 in
theorem m_RE_typeOf {l : Launch} {D : va_G} {ta : Nat → ClassId} {base : Nat} {sa : Nat → Nat} {post : Int32 → gMem → Prop} {a0 : Int32} {M : gMem} (h : wp_RE_typeOf post a0 M) : GC gLay gCl D ta base gNw sa gTabs gTs l y_RE_typeOf b_RE_typeOf 2 (some .int) 1 21 [.ref (base + 39), .int a0] M (gPi post) := by
  refine GC.of (own := "ObjectFile$Reader") pn_RE rfl (Nat.le_of_ble_eq_true rfl) ?_
  intro p e s m below meth c X hK hr hlk
  refine g_args (L' := [(0, .ref (base + 39)), (1, .int a0)]) rfl ?_
  unfold wp_RE_typeOf at h
  refine g_aload_n X dRE_typeOf_0 rfl 0 rfl ?_
  refine g_getr X hK.1 fw_RE_9 ly_39 rfl dRE_typeOf_1 ?_
  refine g_iload_n X dRE_typeOf_4 rfl 1 rfl ?_
  refine g_bipush X (v := (12 : Int32)) dRE_typeOf_5 (by decide) ?_
  refine g_iadd X dRE_typeOf_7 ?_
  refine g_callVN X hK gTs_ok ly_17 rfl mw_FB_u1 nw_785 mi_FB_u1 ms_FB_u1 (As := [.int (a0 + (12 : Int32))]) rfl ⟨(Nat.le_of_ble_eq_true rfl), (Nat.le_of_ble_eq_true rfl), Nat.le_refl _, Nat.le_refl _⟩ (m_FB_u1 h) (rest := []) rfl (Nat.le_of_ble_eq_true rfl) dRE_typeOf_8 (gk_i (fun r1 M2 h => ?_))
  refine g_bipush X (v := (15 : Int32)) dRE_typeOf_11 (by decide) ?_
  refine g_iand X dRE_typeOf_13 ?_
  exact g_iret X hr hlk dRE_typeOf_14 ⟨_, rfl, h⟩
set_option maxRecDepth 100000 in
set_option maxHeartbeats 4000000 in
theorem m_CT_tellSymbol_s {l : Launch} {D : va_G} {ta : Nat → ClassId} {base : Nat} {sa : Nat → Nat} {post : gMem → Prop} {a0 : Int32} {a1 : Int32} {a2 : Int32} {a3 : Int32} {a4 : Int32} {a5 : Int32} {M : gMem} (h : wp_CT_tellSymbol_s post a0 a1 a2 a3 a4 a5 M) : GC gLay gCl D ta base gNw sa gTabs gTs l y_CT_tellSymbol b_CT_tellSymbol 8 none 0 0 [.ref (base + 9), .int a0, .int a1, .int a2, .int a3, .int a4, .int a5] M (gPv post) := by
  refine GC.of (own := "ObjectFile$Contents") pn_CT rfl (Nat.le_of_ble_eq_true rfl) ?_
  intro p e s m below meth c X hK hr hlk
  refine g_args (L' := [(0, .ref (base + 9)), (1, .int a0), (2, .int a1), (3, .int a2), (4, .int a3), (5, .int a4), (6, .int a5)]) rfl ?_
  unfold wp_CT_tellSymbol_s at h
  refine g_iload_n X dCT_tellSymbol_0 rfl 1 rfl ?_
  refine g_if_lt X dCT_tellSymbol_1 (fun c => ?_) (fun c => ?_)
  · have h := h.1 c
    exact g_vret X hr hlk dCT_tellSymbol_12 ⟨rfl, h⟩
  · have h := h.2 c
    refine g_iload_n X dCT_tellSymbol_4 rfl 1 rfl ?_
    refine g_aload_n X dCT_tellSymbol_5 rfl 0 rfl ?_
    refine g_geti X hK.1 fw_CT_44 ly_9 rfl dCT_tellSymbol_6 ?_
    refine g_icmp_lt X dCT_tellSymbol_9 (fun c => ?_) (fun c => ?_)
    · have h := h.1 c
      refine g_iload_n X dCT_tellSymbol_13 rfl 1 rfl ?_
      refine g_bipush X (v := (6 : Int32)) dCT_tellSymbol_14 (by decide) ?_
      refine g_imul X dCT_tellSymbol_16 ?_
      refine g_topi (fun x1 ex1 => ?_)
      have h := h x1 ex1
      refine g_istore X (L' := [(7, .int x1), (0, .ref (base + 9)), (1, .int a0), (2, .int a1), (3, .int a2), (4, .int a3), (5, .int a4), (6, .int a5)]) dCT_tellSymbol_17 (Nat.le_of_ble_eq_true rfl) rfl ?_
      refine g_aload_n X dCT_tellSymbol_19 rfl 1 rfl ?_
      refine g_getr X hK.1 fw_CT_25 ly_9 rfl dCT_tellSymbol_20 ?_
      refine g_iload X dCT_tellSymbol_23 0 rfl ?_
      refine g_iconst X (v := (0 : Int32)) dCT_tellSymbol_25 (by decide) ?_
      refine g_iadd X dCT_tellSymbol_26 ?_
      refine g_iload_n X dCT_tellSymbol_27 rfl 3 rfl ?_
      obtain ⟨hi, h⟩ := h
      refine g_iast X hK.1 ly_14 hi dCT_tellSymbol_28 ?_
      refine g_topM (fun M2 eM2 => ?_)
      have h := h M2 eM2
      refine g_aload_n X dCT_tellSymbol_29 rfl 1 rfl ?_
      refine g_getr X hK.1 fw_CT_25 ly_9 rfl dCT_tellSymbol_30 ?_
      refine g_iload X dCT_tellSymbol_33 0 rfl ?_
      refine g_iconst X (v := (1 : Int32)) dCT_tellSymbol_35 (by decide) ?_
      refine g_iadd X dCT_tellSymbol_36 ?_
      refine g_iload_n X dCT_tellSymbol_37 rfl 4 rfl ?_
      obtain ⟨hi, h⟩ := h
      refine g_iast X hK.1 ly_14 hi dCT_tellSymbol_38 ?_
      refine g_topM (fun M3 eM3 => ?_)
      have h := h M3 eM3
      refine g_aload_n X dCT_tellSymbol_39 rfl 1 rfl ?_
      refine g_getr X hK.1 fw_CT_25 ly_9 rfl dCT_tellSymbol_40 ?_
      refine g_iload X dCT_tellSymbol_43 0 rfl ?_
      refine g_iconst X (v := (2 : Int32)) dCT_tellSymbol_45 (by decide) ?_
      refine g_iadd X dCT_tellSymbol_46 ?_
      refine g_iload X dCT_tellSymbol_47 5 rfl ?_
      obtain ⟨hi, h⟩ := h
      refine g_iast X hK.1 ly_14 hi dCT_tellSymbol_49 ?_
      refine g_topM (fun M4 eM4 => ?_)
      have h := h M4 eM4
      refine g_aload_n X dCT_tellSymbol_50 rfl 1 rfl ?_
      refine g_getr X hK.1 fw_CT_25 ly_9 rfl dCT_tellSymbol_51 ?_
      refine g_iload X dCT_tellSymbol_54 0 rfl ?_
      refine g_iconst X (v := (3 : Int32)) dCT_tellSymbol_56 (by decide) ?_
      refine g_iadd X dCT_tellSymbol_57 ?_
      refine g_iload X dCT_tellSymbol_58 6 rfl ?_
      obtain ⟨hi, h⟩ := h
      refine g_iast X hK.1 ly_14 hi dCT_tellSymbol_60 ?_
      refine g_topM (fun M5 eM5 => ?_)
      have h := h M5 eM5
      refine g_aload_n X dCT_tellSymbol_61 rfl 1 rfl ?_
      refine g_getr X hK.1 fw_CT_25 ly_9 rfl dCT_tellSymbol_62 ?_
      refine g_iload X dCT_tellSymbol_65 0 rfl ?_
      refine g_iconst X (v := (4 : Int32)) dCT_tellSymbol_67 (by decide) ?_
      refine g_iadd X dCT_tellSymbol_68 ?_
      refine g_iload X dCT_tellSymbol_69 7 rfl ?_
      obtain ⟨hi, h⟩ := h
      refine g_iast X hK.1 ly_14 hi dCT_tellSymbol_71 ?_
      refine g_topM (fun M6 eM6 => ?_)
      have h := h M6 eM6
      exact g_vret X hr hlk dCT_tellSymbol_72 ⟨rfl, h⟩
    · have h := h.2 c
      exact g_vret X hr hlk dCT_tellSymbol_12 ⟨rfl, h⟩
set_option maxRecDepth 100000 in
set_option maxHeartbeats 4000000 in
theorem m_RE_fillSymbol_9 {l : Launch} {D : va_G} {ta : Nat → ClassId} {base : Nat} {sa : Nat → Nat} {post : gMem → Prop} {a1 : Int32} {M : gMem} (h : wp_RE_fillSymbol_9 post a1 M) : GC gLay gCl D ta base gNw sa gTabs gTs l y_RE_fillSymbol b_RE_fillSymbol 6 none 3 68 [.ref (base + 39), .ref (base + 9), .int a1] M (gPv post) := by
  refine GC.of (own := "ObjectFile$Reader") pn_RE rfl (Nat.le_of_ble_eq_true rfl) ?_
  intro p e s m below meth c X hK hr hlk
  refine g_args (L' := [(0, .ref (base + 39)), (1, .ref (base + 9)), (2, .int a1)]) rfl ?_
  unfold wp_RE_fillSymbol_9 at h
  refine g_aload_n X dRE_fillSymbol_0 rfl 1 rfl ?_
  refine g_aload_n X dRE_fillSymbol_1 rfl 0 rfl ?_
  refine g_getr X hK.1 fw_RE_9 ly_39 rfl dRE_fillSymbol_2 ?_
  refine g_getrN X hK.1 (gNw_of hK) fw_RE_170 ly_17 rfl dRE_fillSymbol_5 ?_
  refine g_aload_n X dRE_fillSymbol_8 rfl 0 rfl ?_
  refine g_iload_n X dRE_fillSymbol_9 rfl 2 rfl ?_
  refine g_callV X hK gTs_ok ly_39 rfl mw_RE_nameSpot tw_800 mi_RE_nameSpot ms_RE_nameSpot (As := [.int a1]) rfl ⟨(Nat.le_of_ble_eq_true rfl), (Nat.le_of_ble_eq_true rfl), Nat.le_refl _, Nat.le_refl _⟩ (m_RE_nameSpot h) (rest := [.ref (base + 18), .ref (base + 9)]) rfl (Nat.le_of_ble_eq_true rfl) dRE_fillSymbol_10 (gk_i (fun r1 M2 h => ?_))
  refine g_aload_n X dRE_fillSymbol_13 rfl 0 rfl ?_
  refine g_iload_n X dRE_fillSymbol_14 rfl 2 rfl ?_
  refine g_callV X hK gTs_ok ly_39 rfl mw_RE_nameLength tw_795 mi_RE_nameLength ms_RE_nameLength (As := [.int a1]) rfl ⟨(Nat.le_of_ble_eq_true rfl), (Nat.le_of_ble_eq_true rfl), Nat.le_refl _, Nat.le_refl _⟩ (m_RE_nameLength h) (rest := [.int r1, .ref (base + 18), .ref (base + 9)]) rfl (Nat.le_of_ble_eq_true rfl) dRE_fillSymbol_15 (gk_i (fun r3 M4 h => ?_))
  refine g_callVN X hK gTs_ok ly_9 rfl mw_CT_addSymbol nw_873 mi_CT_addSymbol ms_CT_addSymbol (As := [.ref (base + 18), .int r1, .int r3]) rfl ⟨(Nat.le_of_ble_eq_true rfl), (Nat.le_of_ble_eq_true rfl), Nat.le_refl _, Nat.le_refl _⟩ (m_CT_addSymbol_s_18 h) (rest := []) rfl (Nat.le_of_ble_eq_true rfl) dRE_fillSymbol_18 (gk_i (fun r5 M6 h => ?_))
  refine g_istore_n X (L' := [(3, .int r5), (0, .ref (base + 39)), (1, .ref (base + 9)), (2, .int a1)]) dRE_fillSymbol_21 rfl (Nat.le_of_ble_eq_true rfl) rfl ?_
  refine g_aload_n X dRE_fillSymbol_22 rfl 1 rfl ?_
  refine g_getr X hK.1 fw_RE_9 ly_39 rfl dRE_fillSymbol_23 ?_
  refine g_iload_n X dRE_fillSymbol_26 rfl 3 rfl ?_
  refine g_iconst X (v := (4 : Int32)) dRE_fillSymbol_27 (by decide) ?_
  refine g_iadd X dRE_fillSymbol_28 ?_
  refine g_callVN X hK gTs_ok ly_17 rfl mw_FB_u4 nw_799 mi_FB_u4 ms_FB_u4 (As := [.int (a1 + (4 : Int32))]) rfl ⟨(Nat.le_of_ble_eq_true rfl), (Nat.le_of_ble_eq_true rfl), Nat.le_refl _, Nat.le_refl _⟩ (m_FB_u4 h) (rest := []) rfl (Nat.le_of_ble_eq_true rfl) dRE_fillSymbol_29 (gk_l (fun r7 M8 h => ?_))
  refine g_l2i X dRE_fillSymbol_32 rfl ?_
  refine g_topi (fun x9 ex9 => ?_)
  have h := h x9 ex9
  refine g_istore X (L' := [(4, .int x9), (3, .int r5), (0, .ref (base + 39)), (1, .ref (base + 9)), (2, .int a1)]) dRE_fillSymbol_33 (Nat.le_of_ble_eq_true rfl) rfl ?_
  refine g_aload_n X dRE_fillSymbol_35 rfl 2 rfl ?_
  refine g_getr X hK.1 fw_RE_9 ly_39 rfl dRE_fillSymbol_36 ?_
  refine g_iload_n X dRE_fillSymbol_39 rfl 4 rfl ?_
  refine g_bipush X (v := (8 : Int32)) dRE_fillSymbol_40 (by decide) ?_
  refine g_iadd X dRE_fillSymbol_42 ?_
  refine g_callVN X hK gTs_ok ly_17 rfl mw_FB_u4 nw_799 mi_FB_u4 ms_FB_u4 (As := [.int (a1 + (8 : Int32))]) rfl ⟨(Nat.le_of_ble_eq_true rfl), (Nat.le_of_ble_eq_true rfl), Nat.le_refl _, Nat.le_refl _⟩ (m_FB_u4 h) (rest := []) rfl (Nat.le_of_ble_eq_true rfl) dRE_fillSymbol_43 (gk_l (fun r10 M11 h => ?_))
  refine g_l2i X dRE_fillSymbol_46 rfl ?_
  refine g_topi (fun x12 ex12 => ?_)
  have h := h x12 ex12
  refine g_istore X (L' := [(5, .int x12), (4, .int x9), (3, .int r5), (0, .ref (base + 39)), (1, .ref (base + 9)), (2, .int a1)]) dRE_fillSymbol_47 (Nat.le_of_ble_eq_true rfl) rfl ?_
  refine g_aload_n X dRE_fillSymbol_49 rfl 4 rfl ?_
  refine g_iload_n X dRE_fillSymbol_50 rfl 2 rfl ?_
  refine g_aload_n X dRE_fillSymbol_51 rfl 3 rfl ?_
  refine g_iload_n X dRE_fillSymbol_52 rfl 5 rfl ?_
  refine g_callV X hK gTs_ok ly_39 rfl mw_RE_whereOf tw_814 mi_RE_whereOf ms_RE_whereOf (As := [.int a1]) rfl ⟨(Nat.le_of_ble_eq_true rfl), (Nat.le_of_ble_eq_true rfl), Nat.le_refl _, Nat.le_refl _⟩ (m_RE_whereOf h) (rest := [.int r5, .ref (base + 9)]) rfl (Nat.le_of_ble_eq_true rfl) dRE_fillSymbol_53 (gk_i (fun r13 M14 h => ?_))
  refine g_iload X dRE_fillSymbol_56 1 rfl ?_
  refine g_iload X dRE_fillSymbol_58 0 rfl ?_
  refine g_aload_n X dRE_fillSymbol_60 rfl 3 rfl ?_
  refine g_iload_n X dRE_fillSymbol_61 rfl 5 rfl ?_
  refine g_callV X hK gTs_ok ly_39 rfl mw_RE_bindOf tw_805 mi_RE_bindOf ms_RE_bindOf (As := [.int a1]) rfl ⟨(Nat.le_of_ble_eq_true rfl), (Nat.le_of_ble_eq_true rfl), Nat.le_refl _, Nat.le_refl _⟩ (m_RE_bindOf h) (rest := [.int x12, .int x9, .int r13, .int r5, .ref (base + 9)]) rfl (Nat.le_of_ble_eq_true rfl) dRE_fillSymbol_62 (gk_i (fun r15 M16 h => ?_))
  refine g_aload_n X dRE_fillSymbol_65 rfl 3 rfl ?_
  refine g_iload_n X dRE_fillSymbol_66 rfl 5 rfl ?_
  refine g_callV X hK gTs_ok ly_39 rfl mw_RE_typeOf tw_810 mi_RE_typeOf ms_RE_typeOf (As := [.int a1]) rfl ⟨(Nat.le_of_ble_eq_true rfl), (Nat.le_of_ble_eq_true rfl), Nat.le_refl _, Nat.le_refl _⟩ (m_RE_typeOf h) (rest := [.int r15, .int x12, .int x9, .int r13, .int r5, .ref (base + 9)]) rfl (Nat.le_of_ble_eq_true rfl) dRE_fillSymbol_67 (gk_i (fun r17 M18 h => ?_))
  refine g_callVN X hK gTs_ok ly_9 rfl mw_CT_tellSymbol nw_874 mi_CT_tellSymbol ms_CT_tellSymbol (As := [.int r5, .int r13, .int x9, .int x12, .int r15, .int r17]) rfl ⟨(Nat.le_of_ble_eq_true rfl), (Nat.le_of_ble_eq_true rfl), Nat.le_refl _, Nat.le_refl _⟩ (m_CT_tellSymbol_s h) (rest := []) rfl (Nat.le_of_ble_eq_true rfl) dRE_fillSymbol_70 (gk_v (fun M20 h => ?_))
  exact g_vret X hr hlk dRE_fillSymbol_73 ⟨rfl, h⟩
set_option maxRecDepth 100000 in
set_option maxHeartbeats 4000000 in
theorem m_CT_addStart_s {l : Launch} {D : va_G} {ta : Nat → ClassId} {base : Nat} {sa : Nat → Nat} {post : Bool → gMem → Prop} {a0 : Int32} {M : gMem} (h : wp_CT_addStart_s post a0 M) : GC gLay gCl D ta base gNw sa gTabs gTs l y_CT_addStart b_CT_addStart 2 (some .boolean) 0 0 [.ref (base + 9), .int a0] M (gPz post) := by
  refine GC.of (own := "ObjectFile$Contents") pn_CT rfl (Nat.le_of_ble_eq_true rfl) ?_
  intro p e s m below meth c X hK hr hlk
  refine g_args (L' := [(0, .ref (base + 9)), (1, .int a0)]) rfl ?_
  unfold wp_CT_addStart_s at h
  refine g_aload_n X dCT_addStart_0 rfl 0 rfl ?_
  refine g_geti X hK.1 fw_CT_40 ly_9 rfl dCT_addStart_1 ?_
  refine g_if_lt X dCT_addStart_4 (fun c => ?_) (fun c => ?_)
  · have h := h.1 c
    refine g_iconst X (v := (0 : Int32)) dCT_addStart_17 (by decide) ?_
    exact g_zret X hr hlk (by decide) dCT_addStart_18 ⟨false, rfl, h⟩
  · have h := h.2 c
    refine g_aload_n X dCT_addStart_7 rfl 0 rfl ?_
    refine g_geti X hK.1 fw_CT_40 ly_9 rfl dCT_addStart_8 ?_
    refine g_sipush X (v := (1024 : Int32)) dCT_addStart_11 (by decide) ?_
    refine g_icmp_lt X dCT_addStart_14 (fun c => ?_) (fun c => ?_)
    · have h := h.1 c
      refine g_aload_n X dCT_addStart_19 rfl 0 rfl ?_
      refine g_getr X hK.1 fw_CT_22 ly_9 rfl dCT_addStart_20 ?_
      refine g_aload_n X dCT_addStart_23 rfl 0 rfl ?_
      refine g_geti X hK.1 fw_CT_40 ly_9 rfl dCT_addStart_24 ?_
      refine g_iload_n X dCT_addStart_27 rfl 1 rfl ?_
      obtain ⟨hi, h⟩ := h
      refine g_iast X hK.1 ly_13 hi dCT_addStart_28 ?_
      refine g_topM (fun M1 eM1 => ?_)
      have h := h M1 eM1
      refine g_aload_n X dCT_addStart_29 rfl 0 rfl ?_
      refine g_dup X dCT_addStart_30 rfl ?_
      refine g_geti X hK.1 fw_CT_40 ly_9 rfl dCT_addStart_31 ?_
      refine g_iconst X (v := (1 : Int32)) dCT_addStart_34 (by decide) ?_
      refine g_iadd X dCT_addStart_35 ?_
      refine g_puti X hK.1 fw_CT_40 pw_CT_4 ly_9 rfl dCT_addStart_36 ?_
      refine g_topM (fun M2 eM2 => ?_)
      have h := h M2 eM2
      refine g_iconst X (v := (1 : Int32)) dCT_addStart_39 (by decide) ?_
      exact g_zret X hr hlk (by decide) dCT_addStart_40 ⟨true, rfl, h⟩
    · have h := h.2 c
      refine g_iconst X (v := (0 : Int32)) dCT_addStart_17 (by decide) ?_
      exact g_zret X hr hlk (by decide) dCT_addStart_18 ⟨false, rfl, h⟩
set_option maxRecDepth 100000 in
set_option maxHeartbeats 4000000 in
theorem m_FB_copyOut_10 {l : Launch} {D : va_G} {ta : Nat → ClassId} {base : Nat} {sa : Nat → Nat} {post : gMem → Prop} {a0 : Int32} {a2 : Int32} {a3 : Int32} {M : gMem} (h : wp_FB_copyOut_10 post a0 a2 a3 M) : GC gLay gCl D ta base gNw sa gTabs gTs l y_FB_copyOut b_FB_copyOut 5 none 1 18 [.ref (base + 17), .int a0, .ref (base + 10), .int a2, .int a3] M (gPv post) := by
  refine GC.of (own := "ObjectFile$FileBytes") pn_FB rfl (Nat.le_of_ble_eq_true rfl) ?_
  intro p e s m below meth c X hK hr hlk
  refine g_args (L' := [(0, .ref (base + 17)), (1, .int a0), (2, .ref (base + 10)), (3, .int a2), (4, .int a3)]) rfl ?_
  unfold wp_FB_copyOut_10 at h
  refine g_iload X dFB_copyOut_0 4 rfl ?_
  refine g_if_le X dFB_copyOut_2 (fun c => ?_) (fun c => ?_)
  · have h := h.1 c
    exact g_vret X hr hlk dFB_copyOut_45 ⟨rfl, h⟩
  · have h := h.2 c
    refine g_iload_n X dFB_copyOut_5 rfl 3 rfl ?_
    refine g_if_lt X dFB_copyOut_6 (fun c => ?_) (fun c => ?_)
    · have h := h.1 c
      exact g_vret X hr hlk dFB_copyOut_45 ⟨rfl, h⟩
    · have h := h.2 c
      refine g_iload_n X dFB_copyOut_9 rfl 3 rfl ?_
      refine g_aload_n X dFB_copyOut_10 rfl 2 rfl ?_
      refine g_alen X hK.1 ly_10 (by decide) (v := (6144 : Int32)) (by decide) dFB_copyOut_11 ?_
      refine g_iload X dFB_copyOut_12 4 rfl ?_
      refine g_isub X dFB_copyOut_14 ?_
      refine g_icmp_gt X dFB_copyOut_15 (fun c => ?_) (fun c => ?_)
      · have h := h.1 c
        exact g_vret X hr hlk dFB_copyOut_45 ⟨rfl, h⟩
      · have h := h.2 c
        refine g_iload_n X dFB_copyOut_18 rfl 1 rfl ?_
        refine g_if_lt X dFB_copyOut_19 (fun c => ?_) (fun c => ?_)
        · have h := h.1 c
          exact g_vret X hr hlk dFB_copyOut_45 ⟨rfl, h⟩
        · have h := h.2 c
          refine g_iload_n X dFB_copyOut_22 rfl 1 rfl ?_
          refine g_aload_n X dFB_copyOut_23 rfl 0 rfl ?_
          refine g_geti X hK.1 fw_FB_15 ly_17 rfl dFB_copyOut_24 ?_
          refine g_iload X dFB_copyOut_27 4 rfl ?_
          refine g_isub X dFB_copyOut_29 ?_
          refine g_icmp_gt X dFB_copyOut_30 (fun c => ?_) (fun c => ?_)
          · have h := h.1 c
            exact g_vret X hr hlk dFB_copyOut_45 ⟨rfl, h⟩
          · have h := h.2 c
            refine g_aload_n X dFB_copyOut_33 rfl 0 rfl ?_
            refine g_getr X hK.1 fw_FB_9 ly_17 rfl dFB_copyOut_34 ?_
            refine g_iload_n X dFB_copyOut_37 rfl 1 rfl ?_
            refine g_aload_n X dFB_copyOut_38 rfl 2 rfl ?_
            refine g_iload_n X dFB_copyOut_39 rfl 3 rfl ?_
            refine g_iload X dFB_copyOut_40 4 rfl ?_
            obtain ⟨q1, q2, q3, q4, q5, q6, h⟩ := h
            refine g_copyb X hK.1 tw_577 tw_351 tw_350 tw_11 ly_18 ly_10 q1 q2 q3 q4 q5 q6 (Nat.le_of_ble_eq_true rfl) (Nat.le_of_ble_eq_true rfl) dFB_copyOut_42 ?_
            refine g_topM (fun M1 eM1 => ?_)
            have h := h M1 eM1
            exact g_vret X hr hlk dFB_copyOut_45 ⟨rfl, h⟩
set_option maxRecDepth 100000 in
set_option maxHeartbeats 4000000 in
theorem m_RE_fill_9 {l : Launch} {D : va_G} {ta : Nat → ClassId} {base : Nat} {sa : Nat → Nat} {post : gMem → Prop} {M : gMem} (h : wp_RE_fill_9 post M) : GC gLay gCl D ta base gNw sa gTabs gTs l y_RE_fill b_RE_fill 6 none 4 93 [.ref (base + 39), .ref (base + 9)] M (gPv post) := by
  refine GC.of (own := "ObjectFile$Reader") pn_RE rfl (Nat.le_of_ble_eq_true rfl) ?_
  intro p e s m below meth c X hK hr hlk
  have r_191 : ∀ (n : Nat) (v5 : Int32) (M : gMem), wl_RE_fill_9_191 post n v5 M → GMx D ta base p l e 4 93 s m [.ref (base + 39), .ref (base + 9)] below meth c (gPv post) 6 191 [(0, .ref (base + 39)), (1, .ref (base + 9)), (5, .int v5)] [] M := by
    intro n
    induction n with
    | zero => exact fun _ M h => h.elim
    | succ n ih =>
      intro v5 M h
      refine g_iload X dRE_fill_191 2 rfl ?_
      refine g_iconst X (v := (2 : Int32)) dRE_fill_193 (by decide) ?_
      refine g_icmp_gt X dRE_fill_194 (fun c => ?_) (fun c => ?_)
      · have h := h.1 c
        exact g_vret X hr hlk dRE_fill_210 ⟨rfl, h⟩
      · have h := h.2 c
        refine g_aload_n X dRE_fill_197 rfl 0 rfl ?_
        refine g_aload_n X dRE_fill_198 rfl 1 rfl ?_
        refine g_iload X dRE_fill_199 2 rfl ?_
        refine g_callV X hK gTs_ok ly_39 rfl mw_RE_fillRelocations tw_875 mi_RE_fillRelocations ms_RE_fillRelocations (As := [.ref (base + 9), .int v5]) rfl ⟨(Nat.le_of_ble_eq_true rfl), (Nat.le_of_ble_eq_true rfl), Nat.le_refl _, Nat.le_refl _⟩ (m_RE_fillRelocations_9 h) (rest := []) rfl (Nat.le_of_ble_eq_true rfl) dRE_fill_201 (gk_v (fun M8 h => ?_))
        obtain ⟨x9, ex9⟩ : ∃ z : Int32, z = v5 + (1 : Int32) := ⟨_, rfl⟩
        have h := h x9 ex9
        refine g_iinc X (L' := [(5, .int x9), (0, .ref (base + 39)), (1, .ref (base + 9))]) (k := 2) dRE_fill_204 rfl (v := x9) (by rw [ex9]; rfl) (Nat.le_of_ble_eq_true rfl) rfl ?_
        refine g_goto X dRE_fill_207 ?_
        refine g_sub (L' := [(0, .ref (base + 39)), (1, .ref (base + 9)), (5, .int x9)]) [1, 2, 0] rfl ?_
        exact ih x9 M8 h
  have r_154 : ∀ (n : Nat) (v4 : Int32) (v5 : Int32) (M : gMem), wl_RE_fill_9_154 post n v4 v5 M → GMx D ta base p l e 4 93 s m [.ref (base + 39), .ref (base + 9)] below meth c (gPv post) 6 154 [(0, .ref (base + 39)), (1, .ref (base + 9)), (4, .int v4), (5, .int v5)] [] M := by
    intro n
    induction n with
    | zero => exact fun _ _ M h => h.elim
    | succ n ih =>
      intro v4 v5 M h
      refine g_iload X dRE_fill_154 3 rfl ?_
      refine g_iload X dRE_fill_156 2 rfl ?_
      refine g_icmp_ge X dRE_fill_158 (fun c => ?_) (fun c => ?_)
      · have h := h.1 c
        refine g_iconst X (v := (0 : Int32)) dRE_fill_188 (by decide) ?_
        refine g_istore X (L' := [(5, .int (0 : Int32)), (0, .ref (base + 39)), (1, .ref (base + 9)), (4, .int v4)]) dRE_fill_189 (Nat.le_of_ble_eq_true rfl) rfl ?_
        refine g_sub (L' := [(0, .ref (base + 39)), (1, .ref (base + 9)), (5, .int (0 : Int32))]) [1, 2, 0] rfl ?_
        obtain ⟨n9, h⟩ := h
        exact r_191 n9 (0 : Int32) M h
      · have h := h.2 c
        refine g_aload_n X dRE_fill_161 rfl 0 rfl ?_
        refine g_aload_n X dRE_fill_162 rfl 1 rfl ?_
        refine g_aload_n X dRE_fill_163 rfl 0 rfl ?_
        refine g_getr X hK.1 fw_RE_19 ly_39 rfl dRE_fill_164 ?_
        refine g_getrN X hK.1 (gNw_of hK) fw_RE_39 ly_33 rfl dRE_fill_167 ?_
        refine g_bipush X (v := (8 : Int32)) dRE_fill_170 (by decide) ?_
        obtain ⟨hi, h⟩ := h
        refine g_iald X hK.1 ly_36 hi dRE_fill_172 ?_
        refine g_bipush X (v := (16 : Int32)) dRE_fill_173 (by decide) ?_
        refine g_iload X dRE_fill_175 3 rfl ?_
        refine g_imul X dRE_fill_177 ?_
        refine g_iadd X dRE_fill_178 ?_
        refine g_callV X hK gTs_ok ly_39 rfl mw_RE_fillSymbol tw_869 mi_RE_fillSymbol ms_RE_fillSymbol (As := [.ref (base + 9), .int ((M 36 ((8 : Int32)).toNatClampNeg) + ((16 : Int32) * v5))]) rfl ⟨(Nat.le_of_ble_eq_true rfl), (Nat.le_of_ble_eq_true rfl), Nat.le_refl _, Nat.le_refl _⟩ (m_RE_fillSymbol_9 h) (rest := []) rfl (Nat.le_of_ble_eq_true rfl) dRE_fill_179 (gk_v (fun M11 h => ?_))
        obtain ⟨x12, ex12⟩ : ∃ z : Int32, z = v5 + (1 : Int32) := ⟨_, rfl⟩
        have h := h x12 ex12
        refine g_iinc X (L' := [(5, .int x12), (0, .ref (base + 39)), (1, .ref (base + 9)), (4, .int v4)]) (k := 3) dRE_fill_182 rfl (v := x12) (by rw [ex12]; rfl) (Nat.le_of_ble_eq_true rfl) rfl ?_
        refine g_goto X dRE_fill_185 ?_
        refine g_sub (L' := [(0, .ref (base + 39)), (1, .ref (base + 9)), (4, .int v4), (5, .int x12)]) [1, 2, 3, 0] rfl ?_
        exact ih v4 x12 M11 h
  have r_119 : ∀ (n : Nat) (v3 : Int32) (v4 : Int32) (M : gMem), wl_RE_fill_9_119 post n v3 v4 M → GMx D ta base p l e 4 93 s m [.ref (base + 39), .ref (base + 9)] below meth c (gPv post) 6 119 [(0, .ref (base + 39)), (1, .ref (base + 9)), (3, .int v3), (4, .int v4)] [] M := by
    intro n
    induction n with
    | zero => exact fun _ _ M h => h.elim
    | succ n ih =>
      intro v3 v4 M h
      refine g_iload X dRE_fill_119 3 rfl ?_
      refine g_iload_n X dRE_fill_121 rfl 2 rfl ?_
      refine g_icmp_ge X dRE_fill_122 (fun c => ?_) (fun c => ?_)
      · have h := h.1 c
        refine g_aload_n X dRE_fill_145 rfl 0 rfl ?_
        refine g_callV X hK gTs_ok ly_39 rfl mw_RE_symbolRows tw_787 mi_RE_symbolRows ms_RE_symbolRows (As := []) rfl ⟨(Nat.le_of_ble_eq_true rfl), (Nat.le_of_ble_eq_true rfl), Nat.le_refl _, Nat.le_refl _⟩ (m_RE_symbolRows h) (rest := []) rfl (Nat.le_of_ble_eq_true rfl) dRE_fill_146 (gk_i (fun r5 M6 h => ?_))
        refine g_istore X (L' := [(4, .int r5), (0, .ref (base + 39)), (1, .ref (base + 9)), (3, .int v3)]) dRE_fill_149 (Nat.le_of_ble_eq_true rfl) rfl ?_
        refine g_iconst X (v := (1 : Int32)) dRE_fill_151 (by decide) ?_
        refine g_istore X (L' := [(5, .int (1 : Int32)), (4, .int r5), (0, .ref (base + 39)), (1, .ref (base + 9)), (3, .int v3)]) dRE_fill_152 (Nat.le_of_ble_eq_true rfl) rfl ?_
        refine g_sub (L' := [(0, .ref (base + 39)), (1, .ref (base + 9)), (4, .int r5), (5, .int (1 : Int32))]) [2, 3, 1, 0] rfl ?_
        obtain ⟨n9, h⟩ := h
        exact r_154 n9 r5 (1 : Int32) M6 h
      · have h := h.2 c
        refine g_aload_n X dRE_fill_125 rfl 1 rfl ?_
        refine g_aload_n X dRE_fill_126 rfl 0 rfl ?_
        refine g_getr X hK.1 fw_RE_9 ly_39 rfl dRE_fill_127 ?_
        refine g_iload X dRE_fill_130 3 rfl ?_
        refine g_callVN X hK gTs_ok ly_17 rfl mw_FB_u2 nw_818 mi_FB_u2 ms_FB_u2 (As := [.int v4]) rfl ⟨(Nat.le_of_ble_eq_true rfl), (Nat.le_of_ble_eq_true rfl), Nat.le_refl _, Nat.le_refl _⟩ (m_FB_u2 h) (rest := [.ref (base + 9)]) rfl (Nat.le_of_ble_eq_true rfl) dRE_fill_132 (gk_i (fun r13 M14 h => ?_))
        refine g_callVN X hK gTs_ok ly_9 rfl mw_CT_addStart nw_868 mi_CT_addStart ms_CT_addStart (As := [.int r13]) rfl ⟨(Nat.le_of_ble_eq_true rfl), (Nat.le_of_ble_eq_true rfl), Nat.le_refl _, Nat.le_refl _⟩ (m_CT_addStart_s h) (rest := []) rfl (Nat.le_of_ble_eq_true rfl) dRE_fill_135 (gk_z (fun r15 M16 h => ?_))
        refine g_pop X dRE_fill_138 rfl ?_
        obtain ⟨x17, ex17⟩ : ∃ z : Int32, z = v4 + (2 : Int32) := ⟨_, rfl⟩
        have h := h x17 ex17
        refine g_iinc X (L' := [(4, .int x17), (0, .ref (base + 39)), (1, .ref (base + 9)), (3, .int v3)]) (k := 3) dRE_fill_139 rfl (v := x17) (by rw [ex17]; rfl) (Nat.le_of_ble_eq_true rfl) rfl ?_
        refine g_goto X dRE_fill_142 ?_
        refine g_sub (L' := [(0, .ref (base + 39)), (1, .ref (base + 9)), (3, .int v3), (4, .int x17)]) [1, 2, 3, 0] rfl ?_
        exact ih v3 x17 M16 h
  have r_49 : ∀ (n : Nat) (v2 : Int32) (M : gMem), wl_RE_fill_9_49 post n v2 M → GMx D ta base p l e 4 93 s m [.ref (base + 39), .ref (base + 9)] below meth c (gPv post) 6 49 [(0, .ref (base + 39)), (1, .ref (base + 9)), (2, .int v2)] [] M := by
    intro n
    induction n with
    | zero => exact fun _ M h => h.elim
    | succ n ih =>
      intro v2 M h
      refine g_iload_n X dRE_fill_49 rfl 2 rfl ?_
      refine g_iconst X (v := (2 : Int32)) dRE_fill_50 (by decide) ?_
      refine g_icmp_gt X dRE_fill_51 (fun c => ?_) (fun c => ?_)
      · have h := h.1 c
        refine g_aload_n X dRE_fill_94 rfl 0 rfl ?_
        refine g_getr X hK.1 fw_RE_19 ly_39 rfl dRE_fill_95 ?_
        refine g_getrN X hK.1 (gNw_of hK) fw_RE_39 ly_33 rfl dRE_fill_98 ?_
        refine g_iconst X (v := (4 : Int32)) dRE_fill_101 (by decide) ?_
        obtain ⟨hi, h⟩ := h
        refine g_iald X hK.1 ly_36 hi dRE_fill_102 ?_
        refine g_topi (fun x3 ex3 => ?_)
        have h := h x3 ex3
        refine g_istore_n X (L' := [(2, .int x3), (0, .ref (base + 39)), (1, .ref (base + 9))]) dRE_fill_103 rfl (Nat.le_of_ble_eq_true rfl) rfl ?_
        refine g_iload_n X dRE_fill_104 rfl 0 rfl ?_
        refine g_aload_n X dRE_fill_105 rfl 1 rfl ?_
        refine g_getr X hK.1 fw_RE_19 ly_39 rfl dRE_fill_106 ?_
        refine g_getrN X hK.1 (gNw_of hK) fw_RE_33 ly_33 rfl dRE_fill_109 ?_
        refine g_iconst X (v := (4 : Int32)) dRE_fill_112 (by decide) ?_
        obtain ⟨hi, h⟩ := h
        refine g_iald X hK.1 ly_37 hi dRE_fill_113 ?_
        refine g_iadd X dRE_fill_114 ?_
        refine g_topi (fun x4 ex4 => ?_)
        have h := h x4 ex4
        refine g_istore_n X (L' := [(3, .int x4), (2, .int x3), (0, .ref (base + 39)), (1, .ref (base + 9))]) dRE_fill_115 rfl (Nat.le_of_ble_eq_true rfl) rfl ?_
        refine g_iload_n X dRE_fill_116 rfl 1 rfl ?_
        refine g_istore X (L' := [(4, .int x3), (3, .int x4), (2, .int x3), (0, .ref (base + 39)), (1, .ref (base + 9))]) dRE_fill_117 (Nat.le_of_ble_eq_true rfl) rfl ?_
        refine g_sub (L' := [(0, .ref (base + 39)), (1, .ref (base + 9)), (3, .int x4), (4, .int x3)]) [3, 4, 1, 0] rfl ?_
        obtain ⟨n9, h⟩ := h
        exact r_119 n9 x4 x3 M h
      · have h := h.2 c
        refine g_aload_n X dRE_fill_54 rfl 0 rfl ?_
        refine g_getr X hK.1 fw_RE_9 ly_39 rfl dRE_fill_55 ?_
        refine g_aload_n X dRE_fill_58 rfl 0 rfl ?_
        refine g_getr X hK.1 fw_RE_19 ly_39 rfl dRE_fill_59 ?_
        refine g_getrN X hK.1 (gNw_of hK) fw_RE_39 ly_33 rfl dRE_fill_62 ?_
        refine g_iload_n X dRE_fill_65 rfl 2 rfl ?_
        obtain ⟨hi, h⟩ := h
        refine g_iald X hK.1 ly_36 hi dRE_fill_66 ?_
        refine g_aload_n X dRE_fill_67 rfl 1 rfl ?_
        refine g_getrN X hK.1 (gNw_of hK) fw_RE_152 ly_9 rfl dRE_fill_68 ?_
        refine g_iload_n X dRE_fill_71 rfl 2 rfl ?_
        refine g_sipush X (v := (2048 : Int32)) dRE_fill_72 (by decide) ?_
        refine g_imul X dRE_fill_75 ?_
        refine g_aload_n X dRE_fill_76 rfl 0 rfl ?_
        refine g_getr X hK.1 fw_RE_19 ly_39 rfl dRE_fill_77 ?_
        refine g_getrN X hK.1 (gNw_of hK) fw_RE_33 ly_33 rfl dRE_fill_80 ?_
        refine g_iload_n X dRE_fill_83 rfl 2 rfl ?_
        obtain ⟨hi, h⟩ := h
        refine g_iald X hK.1 ly_37 hi dRE_fill_84 ?_
        refine g_callVN X hK gTs_ok ly_17 rfl mw_FB_copyOut nw_864 mi_FB_copyOut ms_FB_copyOut (As := [.int (M 36 (v2).toNatClampNeg), .ref (base + 10), .int (v2 * (2048 : Int32)), .int (M 37 (v2).toNatClampNeg)]) rfl ⟨(Nat.le_of_ble_eq_true rfl), (Nat.le_of_ble_eq_true rfl), Nat.le_refl _, Nat.le_refl _⟩ (m_FB_copyOut_10 h) (rest := []) rfl (Nat.le_of_ble_eq_true rfl) dRE_fill_85 (gk_v (fun M19 h => ?_))
        obtain ⟨x20, ex20⟩ : ∃ z : Int32, z = v2 + (1 : Int32) := ⟨_, rfl⟩
        have h := h x20 ex20
        refine g_iinc X (L' := [(2, .int x20), (0, .ref (base + 39)), (1, .ref (base + 9))]) (k := 2) dRE_fill_88 rfl (v := x20) (by rw [ex20]; rfl) (Nat.le_of_ble_eq_true rfl) rfl ?_
        refine g_goto X dRE_fill_91 ?_
        refine g_sub (L' := [(0, .ref (base + 39)), (1, .ref (base + 9)), (2, .int x20)]) [1, 2, 0] rfl ?_
        exact ih x20 M19 h
  have r_6 : ∀ (n : Nat) (v2 : Int32) (M : gMem), wl_RE_fill_9_6 post n v2 M → GMx D ta base p l e 4 93 s m [.ref (base + 39), .ref (base + 9)] below meth c (gPv post) 6 6 [(0, .ref (base + 39)), (1, .ref (base + 9)), (2, .int v2)] [] M := by
    intro n
    induction n with
    | zero => exact fun _ M h => h.elim
    | succ n ih =>
      intro v2 M h
      refine g_iload_n X dRE_fill_6 rfl 2 rfl ?_
      refine g_iconst X (v := (3 : Int32)) dRE_fill_7 (by decide) ?_
      refine g_icmp_gt X dRE_fill_8 (fun c => ?_) (fun c => ?_)
      · have h := h.1 c
        refine g_iconst X (v := (0 : Int32)) dRE_fill_47 (by decide) ?_
        refine g_istore_n X (L' := [(2, .int (0 : Int32)), (0, .ref (base + 39)), (1, .ref (base + 9))]) dRE_fill_48 rfl (Nat.le_of_ble_eq_true rfl) rfl ?_
        refine g_sub (L' := [(0, .ref (base + 39)), (1, .ref (base + 9)), (2, .int (0 : Int32))]) [1, 2, 0] rfl ?_
        obtain ⟨n9, h⟩ := h
        exact r_49 n9 (0 : Int32) M h
      · have h := h.2 c
        refine g_aload_n X dRE_fill_11 rfl 1 rfl ?_
        refine g_getrN X hK.1 (gNw_of hK) fw_RE_147 ly_9 rfl dRE_fill_12 ?_
        refine g_iload_n X dRE_fill_15 rfl 2 rfl ?_
        refine g_aload_n X dRE_fill_16 rfl 0 rfl ?_
        refine g_getr X hK.1 fw_RE_19 ly_39 rfl dRE_fill_17 ?_
        refine g_getrN X hK.1 (gNw_of hK) fw_RE_33 ly_33 rfl dRE_fill_20 ?_
        refine g_iload_n X dRE_fill_23 rfl 2 rfl ?_
        obtain ⟨hi, h⟩ := h
        refine g_iald X hK.1 ly_37 hi dRE_fill_24 ?_
        obtain ⟨hi, h⟩ := h
        refine g_iast X hK.1 ly_11 hi dRE_fill_25 ?_
        refine g_topM (fun M21 eM21 => ?_)
        have h := h M21 eM21
        refine g_aload_n X dRE_fill_26 rfl 1 rfl ?_
        refine g_getrN X hK.1 (gNw_of hK) fw_RE_148 ly_9 rfl dRE_fill_27 ?_
        refine g_iload_n X dRE_fill_30 rfl 2 rfl ?_
        refine g_aload_n X dRE_fill_31 rfl 0 rfl ?_
        refine g_getr X hK.1 fw_RE_19 ly_39 rfl dRE_fill_32 ?_
        refine g_getrN X hK.1 (gNw_of hK) fw_RE_151 ly_33 rfl dRE_fill_35 ?_
        refine g_iload_n X dRE_fill_38 rfl 2 rfl ?_
        obtain ⟨hi, h⟩ := h
        refine g_iald X hK.1 ly_38 hi dRE_fill_39 ?_
        obtain ⟨hi, h⟩ := h
        refine g_iast X hK.1 ly_12 hi dRE_fill_40 ?_
        refine g_topM (fun M22 eM22 => ?_)
        have h := h M22 eM22
        obtain ⟨x23, ex23⟩ : ∃ z : Int32, z = v2 + (1 : Int32) := ⟨_, rfl⟩
        have h := h x23 ex23
        refine g_iinc X (L' := [(2, .int x23), (0, .ref (base + 39)), (1, .ref (base + 9))]) (k := 2) dRE_fill_41 rfl (v := x23) (by rw [ex23]; rfl) (Nat.le_of_ble_eq_true rfl) rfl ?_
        refine g_goto X dRE_fill_44 ?_
        refine g_sub (L' := [(0, .ref (base + 39)), (1, .ref (base + 9)), (2, .int x23)]) [1, 2, 0] rfl ?_
        exact ih x23 M22 h
  refine g_args (L' := [(0, .ref (base + 39)), (1, .ref (base + 9))]) rfl ?_
  unfold wp_RE_fill_9 at h
  refine g_aload_n X dRE_fill_0 rfl 1 rfl ?_
  refine g_callVN X hK gTs_ok ly_9 rfl mw_CT_reset nw_863 mi_CT_reset ms_CT_reset (As := []) rfl ⟨(Nat.le_of_ble_eq_true rfl), (Nat.le_of_ble_eq_true rfl), Nat.le_refl _, Nat.le_refl _⟩ (m_CT_reset_s h) (rest := []) rfl (Nat.le_of_ble_eq_true rfl) dRE_fill_1 (gk_v (fun M2 h => ?_))
  refine g_iconst X (v := (0 : Int32)) dRE_fill_4 (by decide) ?_
  refine g_istore_n X (L' := [(2, .int (0 : Int32)), (0, .ref (base + 39)), (1, .ref (base + 9))]) dRE_fill_5 rfl (Nat.le_of_ble_eq_true rfl) rfl ?_
  refine g_sub (L' := [(0, .ref (base + 39)), (1, .ref (base + 9)), (2, .int (0 : Int32))]) [1, 2, 0] rfl ?_
  obtain ⟨n9, h⟩ := h
  exact r_6 n9 (0 : Int32) M2 h
set_option maxRecDepth 100000 in
set_option maxHeartbeats 4000000 in
theorem m_RE_flawIn {l : Launch} {D : va_G} {ta : Nat → ClassId} {base : Nat} {sa : Nat → Nat} {post : Int32 → gMem → Prop} {a0 : Int32} {M : gMem} (h : wp_RE_flawIn post a0 M) : GC gLay gCl D ta base gNw sa gTabs gTs l y_RE_flawIn b_RE_flawIn 4 (some .int) 2 47 [.ref (base + 39), .int a0] M (gPi post) := by
  refine GC.of (own := "ObjectFile$Reader") pn_RE rfl (Nat.le_of_ble_eq_true rfl) ?_
  intro p e s m below meth c X hK hr hlk
  have r_28 : ∀ (v1 : Int32) (v2 : Int32) (s0 : Int32) (M : gMem), wj_RE_flawIn_28 post v1 v2 s0 M → GMx D ta base p l e 2 47 s m [.ref (base + 39), .int a0] below meth c (gPi post) 4 28 [(0, .ref (base + 39)), (1, .int v1), (2, .int v2)] [.int s0] M := by
    intro v1 v2 s0 M h
    unfold wj_RE_flawIn_28 at h
    refine g_istore_n X (L' := [(3, .int s0), (0, .ref (base + 39)), (1, .int v1), (2, .int v2)]) dRE_flawIn_28 rfl (Nat.le_of_ble_eq_true rfl) rfl ?_
    refine g_iload_n X dRE_flawIn_29 rfl 3 rfl ?_
    refine g_aload_n X dRE_flawIn_30 rfl 1 rfl ?_
    refine g_getr X hK.1 fw_RE_9 ly_39 rfl dRE_flawIn_31 ?_
    refine g_iload_n X dRE_flawIn_34 rfl 2 rfl ?_
    refine g_iconst X (v := (4 : Int32)) dRE_flawIn_35 (by decide) ?_
    refine g_iadd X dRE_flawIn_36 ?_
    refine g_callVN X hK gTs_ok ly_17 rfl mw_FB_u4 nw_799 mi_FB_u4 ms_FB_u4 (As := [.int (v1 + (4 : Int32))]) rfl ⟨(Nat.le_of_ble_eq_true rfl), (Nat.le_of_ble_eq_true rfl), Nat.le_refl _, Nat.le_refl _⟩ (m_FB_u4 h) (rest := [.int v2]) rfl (Nat.le_of_ble_eq_true rfl) dRE_flawIn_37 (gk_l (fun r3 M4 h => ?_))
    refine g_l2i X dRE_flawIn_40 rfl ?_
    refine g_aload_n X dRE_flawIn_41 rfl 1 rfl ?_
    refine g_getr X hK.1 fw_RE_9 ly_39 rfl dRE_flawIn_42 ?_
    refine g_iload_n X dRE_flawIn_45 rfl 2 rfl ?_
    refine g_bipush X (v := (8 : Int32)) dRE_flawIn_46 (by decide) ?_
    refine g_iadd X dRE_flawIn_48 ?_
    refine g_callVN X hK gTs_ok ly_17 rfl mw_FB_u4 nw_799 mi_FB_u4 ms_FB_u4 (As := [.int (v1 + (8 : Int32))]) rfl ⟨(Nat.le_of_ble_eq_true rfl), (Nat.le_of_ble_eq_true rfl), Nat.le_refl _, Nat.le_refl _⟩ (m_FB_u4 h) (rest := [.int (r3.toInt32), .int v2]) rfl (Nat.le_of_ble_eq_true rfl) dRE_flawIn_49 (gk_l (fun r5 M6 h => ?_))
    refine g_l2i X dRE_flawIn_52 rfl ?_
    refine g_aload_n X dRE_flawIn_53 rfl 1 rfl ?_
    refine g_iload_n X dRE_flawIn_54 rfl 2 rfl ?_
    refine g_callV X hK gTs_ok ly_39 rfl mw_RE_bindOf tw_805 mi_RE_bindOf ms_RE_bindOf (As := [.int v1]) rfl ⟨(Nat.le_of_ble_eq_true rfl), (Nat.le_of_ble_eq_true rfl), Nat.le_refl _, Nat.le_refl _⟩ (m_RE_bindOf h) (rest := [.int (r5.toInt32), .int (r3.toInt32), .int v2]) rfl (Nat.le_of_ble_eq_true rfl) dRE_flawIn_55 (gk_i (fun r7 M8 h => ?_))
    refine g_iload_n X dRE_flawIn_58 rfl 0 rfl ?_
    refine g_i2l X dRE_flawIn_59 rfl ?_
    refine g_callSN X hK gTs_ok mw_OF_flawOf nw_827 mt_OF_flawOf (As := [.int v2, .int (r3.toInt32), .int (r5.toInt32), .int r7, .long (s0.toInt64)]) rfl ⟨(Nat.le_of_ble_eq_true rfl), (Nat.le_of_ble_eq_true rfl), Nat.le_refl _, Nat.le_refl _⟩ (m_OF_flawOf h) (rest := []) rfl (Nat.le_of_ble_eq_true rfl) dRE_flawIn_60 (gk_i (fun r9 M10 h => ?_))
    exact g_iret X hr hlk dRE_flawIn_63 ⟨_, rfl, h⟩
  have r_27 : ∀ (v1 : Int32) (v2 : Int32) (M : gMem), wj_RE_flawIn_27 post v1 v2 M → GMx D ta base p l e 2 47 s m [.ref (base + 39), .int a0] below meth c (gPi post) 4 27 [(0, .ref (base + 39)), (1, .int v1), (2, .int v2)] [] M := by
    intro v1 v2 M h
    unfold wj_RE_flawIn_27 at h
    refine g_iconst X (v := (0 : Int32)) dRE_flawIn_27 (by decide) ?_
    exact r_28 v1 v2 (0 : Int32) M h
  refine g_args (L' := [(0, .ref (base + 39)), (1, .int a0)]) rfl ?_
  unfold wp_RE_flawIn at h
  refine g_aload_n X dRE_flawIn_0 rfl 0 rfl ?_
  refine g_iload_n X dRE_flawIn_1 rfl 1 rfl ?_
  refine g_callV X hK gTs_ok ly_39 rfl mw_RE_whereOf tw_814 mi_RE_whereOf ms_RE_whereOf (As := [.int a0]) rfl ⟨(Nat.le_of_ble_eq_true rfl), (Nat.le_of_ble_eq_true rfl), Nat.le_refl _, Nat.le_refl _⟩ (m_RE_whereOf h) (rest := []) rfl (Nat.le_of_ble_eq_true rfl) dRE_flawIn_2 (gk_i (fun r1 M2 h => ?_))
  refine g_istore_n X (L' := [(2, .int r1), (0, .ref (base + 39)), (1, .int a0)]) dRE_flawIn_5 rfl (Nat.le_of_ble_eq_true rfl) rfl ?_
  refine g_iload_n X dRE_flawIn_6 rfl 0 rfl ?_
  refine g_if_lt X dRE_flawIn_7 (fun c => ?_) (fun c => ?_)
  · have h := h.1 c
    refine g_sub (L' := [(0, .ref (base + 39)), (1, .int a0), (2, .int r1)]) [1, 2, 0] rfl ?_
    exact r_27 a0 r1 M2 h
  · have h := h.2 c
    refine g_iload_n X dRE_flawIn_10 rfl 0 rfl ?_
    refine g_iconst X (v := (3 : Int32)) dRE_flawIn_11 (by decide) ?_
    refine g_icmp_gt X dRE_flawIn_12 (fun c => ?_) (fun c => ?_)
    · have h := h.1 c
      refine g_sub (L' := [(0, .ref (base + 39)), (1, .int a0), (2, .int r1)]) [1, 2, 0] rfl ?_
      exact r_27 a0 r1 M2 h
    · have h := h.2 c
      refine g_aload_n X dRE_flawIn_15 rfl 1 rfl ?_
      refine g_getr X hK.1 fw_RE_19 ly_39 rfl dRE_flawIn_16 ?_
      refine g_getrN X hK.1 (gNw_of hK) fw_RE_33 ly_33 rfl dRE_flawIn_19 ?_
      refine g_iload_n X dRE_flawIn_22 rfl 0 rfl ?_
      obtain ⟨hi, h⟩ := h
      refine g_iald X hK.1 ly_37 hi dRE_flawIn_23 ?_
      refine g_goto X dRE_flawIn_24 ?_
      refine g_sub (L' := [(0, .ref (base + 39)), (1, .int a0), (2, .int r1)]) [1, 2, 0] rfl ?_
      exact r_28 a0 r1 (M2 37 (r1).toNatClampNeg) M2 h
set_option maxRecDepth 100000 in
set_option maxHeartbeats 4000000 in
theorem m_RE_haveSameName {l : Launch} {D : va_G} {ta : Nat → ClassId} {base : Nat} {sa : Nat → Nat} {post : Bool → gMem → Prop} {a0 : Int32} {a1 : Int32} {M : gMem} (h : wp_RE_haveSameName post a0 a1 M) : GC gLay gCl D ta base gNw sa gTabs gTs l y_RE_haveSameName b_RE_haveSameName 5 (some .boolean) 1 21 [.ref (base + 39), .int a0, .int a1] M (gPz post) := by
  refine GC.of (own := "ObjectFile$Reader") pn_RE rfl (Nat.le_of_ble_eq_true rfl) ?_
  intro p e s m below meth c X hK hr hlk
  have r_2 : ∀ (n : Nat) (v1 : Int32) (v2 : Int32) (v3 : Int32) (M : gMem), wl_RE_haveSameName_2 post n v1 v2 v3 M → GMx D ta base p l e 1 21 s m [.ref (base + 39), .int a0, .int a1] below meth c (gPz post) 5 2 [(0, .ref (base + 39)), (1, .int v1), (2, .int v2), (3, .int v3)] [] M := by
    intro n
    induction n with
    | zero => exact fun _ _ _ M h => h.elim
    | succ n ih =>
      intro v1 v2 v3 M h
      refine g_iload_n X dRE_haveSameName_2 rfl 3 rfl ?_
      refine g_bipush X (v := (16 : Int32)) dRE_haveSameName_3 (by decide) ?_
      refine g_icmp_ge X dRE_haveSameName_5 (fun c => ?_) (fun c => ?_)
      · have h := h.1 c
        refine g_iconst X (v := (1 : Int32)) dRE_haveSameName_50 (by decide) ?_
        exact g_zret X hr hlk (by decide) dRE_haveSameName_51 ⟨true, rfl, h⟩
      · have h := h.2 c
        refine g_aload_n X dRE_haveSameName_8 rfl 0 rfl ?_
        refine g_getr X hK.1 fw_RE_9 ly_39 rfl dRE_haveSameName_9 ?_
        refine g_iload_n X dRE_haveSameName_12 rfl 1 rfl ?_
        refine g_iload_n X dRE_haveSameName_13 rfl 3 rfl ?_
        refine g_iadd X dRE_haveSameName_14 ?_
        refine g_callVN X hK gTs_ok ly_17 rfl mw_FB_u1 nw_785 mi_FB_u1 ms_FB_u1 (As := [.int (v1 + v3)]) rfl ⟨(Nat.le_of_ble_eq_true rfl), (Nat.le_of_ble_eq_true rfl), Nat.le_refl _, Nat.le_refl _⟩ (m_FB_u1 h) (rest := []) rfl (Nat.le_of_ble_eq_true rfl) dRE_haveSameName_15 (gk_i (fun r1 M2 h => ?_))
        refine g_istore X (L' := [(4, .int r1), (0, .ref (base + 39)), (1, .int v1), (2, .int v2), (3, .int v3)]) dRE_haveSameName_18 (Nat.le_of_ble_eq_true rfl) rfl ?_
        refine g_iload X dRE_haveSameName_20 0 rfl ?_
        refine g_aload_n X dRE_haveSameName_22 rfl 1 rfl ?_
        refine g_getr X hK.1 fw_RE_9 ly_39 rfl dRE_haveSameName_23 ?_
        refine g_iload_n X dRE_haveSameName_26 rfl 3 rfl ?_
        refine g_iload_n X dRE_haveSameName_27 rfl 4 rfl ?_
        refine g_iadd X dRE_haveSameName_28 ?_
        refine g_callVN X hK gTs_ok ly_17 rfl mw_FB_u1 nw_785 mi_FB_u1 ms_FB_u1 (As := [.int (v2 + v3)]) rfl ⟨(Nat.le_of_ble_eq_true rfl), (Nat.le_of_ble_eq_true rfl), Nat.le_refl _, Nat.le_refl _⟩ (m_FB_u1 h) (rest := [.int r1]) rfl (Nat.le_of_ble_eq_true rfl) dRE_haveSameName_29 (gk_i (fun r3 M4 h => ?_))
        refine g_icmp_eq X dRE_haveSameName_32 (fun c => ?_) (fun c => ?_)
        · have h := h.1 c
          refine g_iload X dRE_haveSameName_37 0 rfl ?_
          refine g_if_ne X dRE_haveSameName_39 (fun c => ?_) (fun c => ?_)
          · have h := h.1 c
            obtain ⟨x5, ex5⟩ : ∃ z : Int32, z = v3 + (1 : Int32) := ⟨_, rfl⟩
            have h := h x5 ex5
            refine g_iinc X (L' := [(3, .int x5), (4, .int r1), (0, .ref (base + 39)), (1, .int v1), (2, .int v2)]) (k := 4) dRE_haveSameName_44 rfl (v := x5) (by rw [ex5]; rfl) (Nat.le_of_ble_eq_true rfl) rfl ?_
            refine g_goto X dRE_haveSameName_47 ?_
            refine g_sub (L' := [(0, .ref (base + 39)), (1, .int v1), (2, .int v2), (3, .int x5)]) [2, 3, 4, 0] rfl ?_
            exact ih v1 v2 x5 M4 h
          · have h := h.2 c
            refine g_iconst X (v := (1 : Int32)) dRE_haveSameName_42 (by decide) ?_
            exact g_zret X hr hlk (by decide) dRE_haveSameName_43 ⟨true, rfl, h⟩
        · have h := h.2 c
          refine g_iconst X (v := (0 : Int32)) dRE_haveSameName_35 (by decide) ?_
          exact g_zret X hr hlk (by decide) dRE_haveSameName_36 ⟨false, rfl, h⟩
  refine g_args (L' := [(0, .ref (base + 39)), (1, .int a0), (2, .int a1)]) rfl ?_
  unfold wp_RE_haveSameName at h
  refine g_iconst X (v := (0 : Int32)) dRE_haveSameName_0 (by decide) ?_
  refine g_istore_n X (L' := [(3, .int (0 : Int32)), (0, .ref (base + 39)), (1, .int a0), (2, .int a1)]) dRE_haveSameName_1 rfl (Nat.le_of_ble_eq_true rfl) rfl ?_
  refine g_sub (L' := [(0, .ref (base + 39)), (1, .int a0), (2, .int a1), (3, .int (0 : Int32))]) [1, 2, 3, 0] rfl ?_
  obtain ⟨n9, h⟩ := h
  exact r_2 n9 a0 a1 (0 : Int32) M h
set_option maxRecDepth 100000 in
set_option maxHeartbeats 4000000 in
theorem m_RE_isNamedBefore {l : Launch} {D : va_G} {ta : Nat → ClassId} {base : Nat} {sa : Nat → Nat} {post : Bool → gMem → Prop} {a0 : Int32} {a1 : Int32} {M : gMem} (h : wp_RE_isNamedBefore post a0 a1 M) : GC gLay gCl D ta base gNw sa gTabs gTs l y_RE_isNamedBefore b_RE_isNamedBefore 5 (some .boolean) 2 45 [.ref (base + 39), .int a0, .int a1] M (gPz post) := by
  refine GC.of (own := "ObjectFile$Reader") pn_RE rfl (Nat.le_of_ble_eq_true rfl) ?_
  intro p e s m below meth c X hK hr hlk
  have r_14 : ∀ (n : Nat) (v1 : Int32) (v3 : Int32) (v4 : Int32) (M : gMem), wl_RE_isNamedBefore_14 post n v1 v3 v4 M → GMx D ta base p l e 2 45 s m [.ref (base + 39), .int a0, .int a1] below meth c (gPz post) 5 14 [(0, .ref (base + 39)), (1, .int v1), (3, .int v3), (4, .int v4)] [] M := by
    intro n
    induction n with
    | zero => exact fun _ _ _ M h => h.elim
    | succ n ih =>
      intro v1 v3 v4 M h
      refine g_iload X dRE_isNamedBefore_14 3 rfl ?_
      refine g_iload_n X dRE_isNamedBefore_16 rfl 1 rfl ?_
      refine g_icmp_ge X dRE_isNamedBefore_17 (fun c => ?_) (fun c => ?_)
      · have h := h.1 c
        refine g_iconst X (v := (0 : Int32)) dRE_isNamedBefore_56 (by decide) ?_
        exact g_zret X hr hlk (by decide) dRE_isNamedBefore_57 ⟨false, rfl, h⟩
      · have h := h.2 c
        refine g_aload_n X dRE_isNamedBefore_20 rfl 0 rfl ?_
        refine g_iload_n X dRE_isNamedBefore_21 rfl 2 rfl ?_
        refine g_aload_n X dRE_isNamedBefore_22 rfl 0 rfl ?_
        refine g_aload_n X dRE_isNamedBefore_23 rfl 0 rfl ?_
        refine g_getr X hK.1 fw_RE_19 ly_39 rfl dRE_isNamedBefore_24 ?_
        refine g_getrN X hK.1 (gNw_of hK) fw_RE_39 ly_33 rfl dRE_isNamedBefore_27 ?_
        refine g_bipush X (v := (8 : Int32)) dRE_isNamedBefore_30 (by decide) ?_
        obtain ⟨hi, h⟩ := h
        refine g_iald X hK.1 ly_36 hi dRE_isNamedBefore_32 ?_
        refine g_bipush X (v := (16 : Int32)) dRE_isNamedBefore_33 (by decide) ?_
        refine g_iload X dRE_isNamedBefore_35 3 rfl ?_
        refine g_imul X dRE_isNamedBefore_37 ?_
        refine g_iadd X dRE_isNamedBefore_38 ?_
        refine g_callV X hK gTs_ok ly_39 rfl mw_RE_nameSpot tw_800 mi_RE_nameSpot ms_RE_nameSpot (As := [.int ((M 36 ((8 : Int32)).toNatClampNeg) + ((16 : Int32) * v4))]) rfl ⟨(Nat.le_of_ble_eq_true rfl), (Nat.le_of_ble_eq_true rfl), Nat.le_refl _, Nat.le_refl _⟩ (m_RE_nameSpot h) (rest := [.int v3, .ref (base + 39)]) rfl (Nat.le_of_ble_eq_true rfl) dRE_isNamedBefore_39 (gk_i (fun r4 M5 h => ?_))
        refine g_callV X hK gTs_ok ly_39 rfl mw_RE_haveSameName tw_832 mi_RE_haveSameName ms_RE_haveSameName (As := [.int v3, .int r4]) rfl ⟨(Nat.le_of_ble_eq_true rfl), (Nat.le_of_ble_eq_true rfl), Nat.le_refl _, Nat.le_refl _⟩ (m_RE_haveSameName h) (rest := []) rfl (Nat.le_of_ble_eq_true rfl) dRE_isNamedBefore_42 (gk_z (fun r6 M7 h => ?_))
        refine g_if_eq X dRE_isNamedBefore_45 (fun c => ?_) (fun c => ?_)
        · have h := h.1 c
          obtain ⟨x8, ex8⟩ : ∃ z : Int32, z = v4 + (1 : Int32) := ⟨_, rfl⟩
          have h := h x8 ex8
          refine g_iinc X (L' := [(4, .int x8), (0, .ref (base + 39)), (1, .int v1), (3, .int v3)]) (k := 3) dRE_isNamedBefore_50 rfl (v := x8) (by rw [ex8]; rfl) (Nat.le_of_ble_eq_true rfl) rfl ?_
          refine g_goto X dRE_isNamedBefore_53 ?_
          refine g_sub (L' := [(0, .ref (base + 39)), (1, .int v1), (3, .int v3), (4, .int x8)]) [1, 2, 3, 0] rfl ?_
          exact ih v1 v3 x8 M7 h
        · have h := h.2 c
          refine g_iconst X (v := (1 : Int32)) dRE_isNamedBefore_48 (by decide) ?_
          exact g_zret X hr hlk (by decide) dRE_isNamedBefore_49 ⟨true, rfl, h⟩
  refine g_args (L' := [(0, .ref (base + 39)), (1, .int a0), (2, .int a1)]) rfl ?_
  unfold wp_RE_isNamedBefore at h
  refine g_aload_n X dRE_isNamedBefore_0 rfl 0 rfl ?_
  refine g_iload_n X dRE_isNamedBefore_1 rfl 2 rfl ?_
  refine g_callV X hK gTs_ok ly_39 rfl mw_RE_nameSpot tw_800 mi_RE_nameSpot ms_RE_nameSpot (As := [.int a1]) rfl ⟨(Nat.le_of_ble_eq_true rfl), (Nat.le_of_ble_eq_true rfl), Nat.le_refl _, Nat.le_refl _⟩ (m_RE_nameSpot h) (rest := []) rfl (Nat.le_of_ble_eq_true rfl) dRE_isNamedBefore_2 (gk_i (fun r1 M2 h => ?_))
  refine g_istore_n X (L' := [(3, .int r1), (0, .ref (base + 39)), (1, .int a0), (2, .int a1)]) dRE_isNamedBefore_5 rfl (Nat.le_of_ble_eq_true rfl) rfl ?_
  refine g_aload_n X dRE_isNamedBefore_6 rfl 1 rfl ?_
  refine g_geti X hK.1 fw_RE_54 ly_39 rfl dRE_isNamedBefore_7 ?_
  refine g_iconst X (v := (1 : Int32)) dRE_isNamedBefore_10 (by decide) ?_
  refine g_iadd X dRE_isNamedBefore_11 ?_
  refine g_topi (fun x3 ex3 => ?_)
  have h := h x3 ex3
  refine g_istore X (L' := [(4, .int x3), (3, .int r1), (0, .ref (base + 39)), (1, .int a0), (2, .int a1)]) dRE_isNamedBefore_12 (Nat.le_of_ble_eq_true rfl) rfl ?_
  refine g_sub (L' := [(0, .ref (base + 39)), (1, .int a0), (3, .int r1), (4, .int x3)]) [2, 3, 1, 0] rfl ?_
  obtain ⟨n9, h⟩ := h
  exact r_14 n9 a0 r1 x3 M2 h
set_option maxRecDepth 100000 in
set_option maxHeartbeats 4000000 in
theorem m_RE_symbolFault {l : Launch} {D : va_G} {ta : Nat → ClassId} {base : Nat} {sa : Nat → Nat} {post : Int32 → gMem → Prop} {a0 : Int32} {a1 : Int32} {M : gMem} (h : wp_RE_symbolFault post a0 a1 M) : GC gLay gCl D ta base gNw sa gTabs gTs l y_RE_symbolFault b_RE_symbolFault 5 (some .int) 3 70 [.ref (base + 39), .int a0, .int a1] M (gPi post) := by
  refine GC.of (own := "ObjectFile$Reader") pn_RE rfl (Nat.le_of_ble_eq_true rfl) ?_
  intro p e s m below meth c X hK hr hlk
  have r_44 : ∀ (v2 : Int32) (M : gMem), wj_RE_symbolFault_44 post v2 M → GMx D ta base p l e 3 70 s m [.ref (base + 39), .int a0, .int a1] below meth c (gPi post) 5 44 [(0, .ref (base + 39)), (2, .int v2)] [] M := by
    intro v2 M h
    unfold wj_RE_symbolFault_44 at h
    refine g_aload_n X dRE_symbolFault_44 rfl 0 rfl ?_
    refine g_getr X hK.1 fw_RE_15 ly_39 rfl dRE_symbolFault_45 ?_
    refine g_bipush X (v := (23 : Int32)) dRE_symbolFault_48 (by decide) ?_
    refine g_iload_n X dRE_symbolFault_50 rfl 1 rfl ?_
    refine g_bipush X (v := (12 : Int32)) dRE_symbolFault_51 (by decide) ?_
    refine g_iadd X dRE_symbolFault_53 ?_
    refine g_callVN X hK gTs_ok ly_32 rfl mw_FI_tell nw_786 mi_FI_tell ms_FI_tell (As := [.int (23 : Int32), .int (v2 + (12 : Int32))]) rfl ⟨(Nat.le_of_ble_eq_true rfl), (Nat.le_of_ble_eq_true rfl), Nat.le_refl _, Nat.le_refl _⟩ (m_FI_tell h) (rest := []) rfl (Nat.le_of_ble_eq_true rfl) dRE_symbolFault_54 (gk_i (fun r7 M8 h => ?_))
    exact g_iret X hr hlk dRE_symbolFault_57 ⟨_, rfl, h⟩
  have r_128 : ∀ (v1 : Int32) (v2 : Int32) (v3 : Int32) (s0 : Int32) (s1 : Int32) (M : gMem), wj_RE_symbolFault_128 post v1 v2 v3 s0 s1 M → GMx D ta base p l e 3 70 s m [.ref (base + 39), .int a0, .int a1] below meth c (gPi post) 5 128 [(0, .ref (base + 39)), (1, .int v1), (2, .int v2), (3, .int v3)] [.int s0, .int s1, .ref (base + 39)] M := by
    intro v1 v2 v3 s0 s1 M h
    unfold wj_RE_symbolFault_128 at h
    refine g_iadd X dRE_symbolFault_128 ?_
    refine g_puti X hK.1 fw_RE_54 pw_RE_3 ly_39 rfl dRE_symbolFault_129 ?_
    refine g_topM (fun M15 eM15 => ?_)
    have h := h M15 eM15
    refine g_aload_n X dRE_symbolFault_132 rfl 0 rfl ?_
    refine g_iload_n X dRE_symbolFault_133 rfl 2 rfl ?_
    refine g_callV X hK gTs_ok ly_39 rfl mw_RE_whereOf tw_814 mi_RE_whereOf ms_RE_whereOf (As := [.int v2]) rfl ⟨(Nat.le_of_ble_eq_true rfl), (Nat.le_of_ble_eq_true rfl), Nat.le_refl _, Nat.le_refl _⟩ (m_RE_whereOf h) (rest := []) rfl (Nat.le_of_ble_eq_true rfl) dRE_symbolFault_134 (gk_i (fun r16 M17 h => ?_))
    refine g_bipush X (v := (6 : Int32)) dRE_symbolFault_137 (by decide) ?_
    refine g_icmp_ne X dRE_symbolFault_139 (fun c => ?_) (fun c => ?_)
    · have h := h.1 c
      refine g_aload_n X dRE_symbolFault_156 rfl 0 rfl ?_
      refine g_iload_n X dRE_symbolFault_157 rfl 2 rfl ?_
      refine g_callV X hK gTs_ok ly_39 rfl mw_RE_flawIn tw_823 mi_RE_flawIn ms_RE_flawIn (As := [.int v2]) rfl ⟨(Nat.le_of_ble_eq_true rfl), (Nat.le_of_ble_eq_true rfl), Nat.le_refl _, Nat.le_refl _⟩ (m_RE_flawIn h) (rest := []) rfl (Nat.le_of_ble_eq_true rfl) dRE_symbolFault_158 (gk_i (fun r18 M19 h => ?_))
      refine g_istore X (L' := [(4, .int r18), (0, .ref (base + 39)), (1, .int v1), (2, .int v2), (3, .int v3)]) dRE_symbolFault_161 (Nat.le_of_ble_eq_true rfl) rfl ?_
      refine g_iload X dRE_symbolFault_163 0 rfl ?_
      refine g_iconst X (v := (-1 : Int32)) dRE_symbolFault_165 (by decide) ?_
      refine g_icmp_eq X dRE_symbolFault_166 (fun c => ?_) (fun c => ?_)
      · have h := h.1 c
        refine g_iload_n X dRE_symbolFault_208 rfl 4 rfl ?_
        refine g_if_eq X dRE_symbolFault_209 (fun c => ?_) (fun c => ?_)
        · have h := h.1 c
          refine g_iconst X (v := (0 : Int32)) dRE_symbolFault_234 (by decide) ?_
          exact g_iret X hr hlk dRE_symbolFault_235 ⟨_, rfl, h⟩
        · have h := h.2 c
          refine g_aload_n X dRE_symbolFault_212 rfl 1 rfl ?_
          refine g_iload_n X dRE_symbolFault_213 rfl 2 rfl ?_
          refine g_iload_n X dRE_symbolFault_214 rfl 3 rfl ?_
          refine g_callV X hK gTs_ok ly_39 rfl mw_RE_isNamedBefore tw_828 mi_RE_isNamedBefore ms_RE_isNamedBefore (As := [.int v1, .int v2]) rfl ⟨(Nat.le_of_ble_eq_true rfl), (Nat.le_of_ble_eq_true rfl), Nat.le_refl _, Nat.le_refl _⟩ (m_RE_isNamedBefore h) (rest := []) rfl (Nat.le_of_ble_eq_true rfl) dRE_symbolFault_215 (gk_z (fun r20 M21 h => ?_))
          refine g_if_eq X dRE_symbolFault_218 (fun c => ?_) (fun c => ?_)
          · have h := h.1 c
            refine g_iconst X (v := (0 : Int32)) dRE_symbolFault_234 (by decide) ?_
            exact g_iret X hr hlk dRE_symbolFault_235 ⟨_, rfl, h⟩
          · have h := h.2 c
            refine g_aload_n X dRE_symbolFault_221 rfl 1 rfl ?_
            refine g_getr X hK.1 fw_RE_15 ly_39 rfl dRE_symbolFault_222 ?_
            refine g_bipush X (v := (27 : Int32)) dRE_symbolFault_225 (by decide) ?_
            refine g_iload_n X dRE_symbolFault_227 rfl 3 rfl ?_
            refine g_callVN X hK gTs_ok ly_32 rfl mw_FI_tell nw_786 mi_FI_tell ms_FI_tell (As := [.int (27 : Int32), .int v2]) rfl ⟨(Nat.le_of_ble_eq_true rfl), (Nat.le_of_ble_eq_true rfl), Nat.le_refl _, Nat.le_refl _⟩ (m_FI_tell h) (rest := []) rfl (Nat.le_of_ble_eq_true rfl) dRE_symbolFault_228 (gk_i (fun r22 M23 h => ?_))
            refine g_goto X dRE_symbolFault_231 ?_
            exact g_iret X hr hlk dRE_symbolFault_235 ⟨_, rfl, h⟩
      · have h := h.2 c
        refine g_aload_n X dRE_symbolFault_169 rfl 1 rfl ?_
        refine g_getr X hK.1 fw_RE_15 ly_39 rfl dRE_symbolFault_170 ?_
        refine g_bipush X (v := (26 : Int32)) dRE_symbolFault_173 (by decide) ?_
        refine g_iload X dRE_symbolFault_175 0 rfl ?_
        refine g_iconst X (v := (1 : Int32)) dRE_symbolFault_177 (by decide) ?_
        refine g_icmp_ne X dRE_symbolFault_178 (fun c => ?_) (fun c => ?_)
        · have h := h.1 c
          refine g_iload X dRE_symbolFault_187 0 rfl ?_
          refine g_iconst X (v := (2 : Int32)) dRE_symbolFault_189 (by decide) ?_
          refine g_icmp_ne X dRE_symbolFault_190 (fun c => ?_) (fun c => ?_)
          · have h := h.1 c
            refine g_iload_n X dRE_symbolFault_200 rfl 3 rfl ?_
            refine g_bipush X (v := (12 : Int32)) dRE_symbolFault_201 (by decide) ?_
            refine g_iadd X dRE_symbolFault_203 ?_
            refine g_callVN X hK gTs_ok ly_32 rfl mw_FI_tell nw_786 mi_FI_tell ms_FI_tell (As := [.int (26 : Int32), .int (v2 + (12 : Int32))]) rfl ⟨(Nat.le_of_ble_eq_true rfl), (Nat.le_of_ble_eq_true rfl), Nat.le_refl _, Nat.le_refl _⟩ (m_FI_tell h) (rest := []) rfl (Nat.le_of_ble_eq_true rfl) dRE_symbolFault_204 (gk_i (fun r24 M25 h => ?_))
            exact g_iret X hr hlk dRE_symbolFault_207 ⟨_, rfl, h⟩
          · have h := h.2 c
            refine g_iload_n X dRE_symbolFault_193 rfl 3 rfl ?_
            refine g_bipush X (v := (8 : Int32)) dRE_symbolFault_194 (by decide) ?_
            refine g_iadd X dRE_symbolFault_196 ?_
            refine g_goto X dRE_symbolFault_197 ?_
            refine g_callVN X hK gTs_ok ly_32 rfl mw_FI_tell nw_786 mi_FI_tell ms_FI_tell (As := [.int (26 : Int32), .int (v2 + (8 : Int32))]) rfl ⟨(Nat.le_of_ble_eq_true rfl), (Nat.le_of_ble_eq_true rfl), Nat.le_refl _, Nat.le_refl _⟩ (m_FI_tell h) (rest := []) rfl (Nat.le_of_ble_eq_true rfl) dRE_symbolFault_204 (gk_i (fun r26 M27 h => ?_))
            exact g_iret X hr hlk dRE_symbolFault_207 ⟨_, rfl, h⟩
        · have h := h.2 c
          refine g_iload_n X dRE_symbolFault_181 rfl 3 rfl ?_
          refine g_iconst X (v := (4 : Int32)) dRE_symbolFault_182 (by decide) ?_
          refine g_iadd X dRE_symbolFault_183 ?_
          refine g_goto X dRE_symbolFault_184 ?_
          refine g_callVN X hK gTs_ok ly_32 rfl mw_FI_tell nw_786 mi_FI_tell ms_FI_tell (As := [.int (26 : Int32), .int (v2 + (4 : Int32))]) rfl ⟨(Nat.le_of_ble_eq_true rfl), (Nat.le_of_ble_eq_true rfl), Nat.le_refl _, Nat.le_refl _⟩ (m_FI_tell h) (rest := []) rfl (Nat.le_of_ble_eq_true rfl) dRE_symbolFault_204 (gk_i (fun r28 M29 h => ?_))
          exact g_iret X hr hlk dRE_symbolFault_207 ⟨_, rfl, h⟩
    · have h := h.2 c
      refine g_aload_n X dRE_symbolFault_142 rfl 0 rfl ?_
      refine g_getr X hK.1 fw_RE_15 ly_39 rfl dRE_symbolFault_143 ?_
      refine g_bipush X (v := (25 : Int32)) dRE_symbolFault_146 (by decide) ?_
      refine g_iload_n X dRE_symbolFault_148 rfl 2 rfl ?_
      refine g_bipush X (v := (14 : Int32)) dRE_symbolFault_149 (by decide) ?_
      refine g_iadd X dRE_symbolFault_151 ?_
      refine g_callVN X hK gTs_ok ly_32 rfl mw_FI_tell nw_786 mi_FI_tell ms_FI_tell (As := [.int (25 : Int32), .int (v2 + (14 : Int32))]) rfl ⟨(Nat.le_of_ble_eq_true rfl), (Nat.le_of_ble_eq_true rfl), Nat.le_refl _, Nat.le_refl _⟩ (m_FI_tell h) (rest := []) rfl (Nat.le_of_ble_eq_true rfl) dRE_symbolFault_152 (gk_i (fun r30 M31 h => ?_))
      exact g_iret X hr hlk dRE_symbolFault_155 ⟨_, rfl, h⟩
  have r_114 : ∀ (v1 : Int32) (v2 : Int32) (v3 : Int32) (M : gMem), wj_RE_symbolFault_114 post v1 v2 v3 M → GMx D ta base p l e 3 70 s m [.ref (base + 39), .int a0, .int a1] below meth c (gPi post) 5 114 [(0, .ref (base + 39)), (1, .int v1), (2, .int v2), (3, .int v3)] [] M := by
    intro v1 v2 v3 M h
    unfold wj_RE_symbolFault_114 at h
    refine g_aload_n X dRE_symbolFault_114 rfl 0 rfl ?_
    refine g_dup X dRE_symbolFault_115 rfl ?_
    refine g_geti X hK.1 fw_RE_54 ly_39 rfl dRE_symbolFault_116 ?_
    refine g_iload_n X dRE_symbolFault_119 rfl 3 rfl ?_
    refine g_if_ne X dRE_symbolFault_120 (fun c => ?_) (fun c => ?_)
    · have h := h.1 c
      refine g_iconst X (v := (0 : Int32)) dRE_symbolFault_127 (by decide) ?_
      exact r_128 v1 v2 v3 (0 : Int32) (M 39 3) M h
    · have h := h.2 c
      refine g_iconst X (v := (1 : Int32)) dRE_symbolFault_123 (by decide) ?_
      refine g_goto X dRE_symbolFault_124 ?_
      exact r_128 v1 v2 v3 (1 : Int32) (M 39 3) M h
  refine g_args (L' := [(0, .ref (base + 39)), (1, .int a0), (2, .int a1)]) rfl ?_
  unfold wp_RE_symbolFault at h
  refine g_aload_n X dRE_symbolFault_0 rfl 0 rfl ?_
  refine g_iload_n X dRE_symbolFault_1 rfl 2 rfl ?_
  refine g_callV X hK gTs_ok ly_39 rfl mw_RE_nameLength tw_795 mi_RE_nameLength ms_RE_nameLength (As := [.int a1]) rfl ⟨(Nat.le_of_ble_eq_true rfl), (Nat.le_of_ble_eq_true rfl), Nat.le_refl _, Nat.le_refl _⟩ (m_RE_nameLength h) (rest := []) rfl (Nat.le_of_ble_eq_true rfl) dRE_symbolFault_2 (gk_i (fun r1 M2 h => ?_))
  refine g_iconst X (v := (-1 : Int32)) dRE_symbolFault_5 (by decide) ?_
  refine g_icmp_ne X dRE_symbolFault_6 (fun c => ?_) (fun c => ?_)
  · have h := h.1 c
    refine g_aload_n X dRE_symbolFault_20 rfl 0 rfl ?_
    refine g_iload_n X dRE_symbolFault_21 rfl 2 rfl ?_
    refine g_callV X hK gTs_ok ly_39 rfl mw_RE_bindOf tw_805 mi_RE_bindOf ms_RE_bindOf (As := [.int a1]) rfl ⟨(Nat.le_of_ble_eq_true rfl), (Nat.le_of_ble_eq_true rfl), Nat.le_refl _, Nat.le_refl _⟩ (m_RE_bindOf h) (rest := []) rfl (Nat.le_of_ble_eq_true rfl) dRE_symbolFault_22 (gk_i (fun r3 M4 h => ?_))
    refine g_istore_n X (L' := [(3, .int r3), (0, .ref (base + 39)), (1, .int a0), (2, .int a1)]) dRE_symbolFault_25 rfl (Nat.le_of_ble_eq_true rfl) rfl ?_
    refine g_iload_n X dRE_symbolFault_26 rfl 0 rfl ?_
    refine g_callSN X hK gTs_ok mw_OF_isBindOrType nw_809 mt_OF_isBindOrType (As := [.int r3]) rfl ⟨(Nat.le_of_ble_eq_true rfl), (Nat.le_of_ble_eq_true rfl), Nat.le_refl _, Nat.le_refl _⟩ (m_OF_isBindOrType h) (rest := []) rfl (Nat.le_of_ble_eq_true rfl) dRE_symbolFault_27 (gk_z (fun r5 M6 h => ?_))
    refine g_if_eq X dRE_symbolFault_30 (fun c => ?_) (fun c => ?_)
    · have h := h.1 c
      refine g_sub (L' := [(0, .ref (base + 39)), (2, .int a1)]) [1, 3] rfl ?_
      exact r_44 a1 M6 h
    · have h := h.2 c
      refine g_aload_n X dRE_symbolFault_33 rfl 1 rfl ?_
      refine g_iload_n X dRE_symbolFault_34 rfl 3 rfl ?_
      refine g_callV X hK gTs_ok ly_39 rfl mw_RE_typeOf tw_810 mi_RE_typeOf ms_RE_typeOf (As := [.int a1]) rfl ⟨(Nat.le_of_ble_eq_true rfl), (Nat.le_of_ble_eq_true rfl), Nat.le_refl _, Nat.le_refl _⟩ (m_RE_typeOf h) (rest := []) rfl (Nat.le_of_ble_eq_true rfl) dRE_symbolFault_35 (gk_i (fun r9 M10 h => ?_))
      refine g_callSN X hK gTs_ok mw_OF_isBindOrType nw_809 mt_OF_isBindOrType (As := [.int r9]) rfl ⟨(Nat.le_of_ble_eq_true rfl), (Nat.le_of_ble_eq_true rfl), Nat.le_refl _, Nat.le_refl _⟩ (m_OF_isBindOrType h) (rest := []) rfl (Nat.le_of_ble_eq_true rfl) dRE_symbolFault_38 (gk_z (fun r11 M12 h => ?_))
      refine g_if_ne X dRE_symbolFault_41 (fun c => ?_) (fun c => ?_)
      · have h := h.1 c
        refine g_aload_n X dRE_symbolFault_58 rfl 1 rfl ?_
        refine g_getr X hK.1 fw_RE_9 ly_39 rfl dRE_symbolFault_59 ?_
        refine g_iload_n X dRE_symbolFault_62 rfl 3 rfl ?_
        refine g_bipush X (v := (13 : Int32)) dRE_symbolFault_63 (by decide) ?_
        refine g_iadd X dRE_symbolFault_65 ?_
        refine g_callVN X hK gTs_ok ly_17 rfl mw_FB_u1 nw_785 mi_FB_u1 ms_FB_u1 (As := [.int (a1 + (13 : Int32))]) rfl ⟨(Nat.le_of_ble_eq_true rfl), (Nat.le_of_ble_eq_true rfl), Nat.le_refl _, Nat.le_refl _⟩ (m_FB_u1 h) (rest := []) rfl (Nat.le_of_ble_eq_true rfl) dRE_symbolFault_66 (gk_i (fun r13 M14 h => ?_))
        refine g_if_eq X dRE_symbolFault_69 (fun c => ?_) (fun c => ?_)
        · have h := h.1 c
          refine g_iload_n X dRE_symbolFault_86 rfl 0 rfl ?_
          refine g_if_ne X dRE_symbolFault_87 (fun c => ?_) (fun c => ?_)
          · have h := h.1 c
            refine g_sub (L' := [(0, .ref (base + 39)), (1, .int a0), (2, .int a1), (3, .int r3)]) [1, 2, 3, 0] rfl ?_
            exact r_114 a0 a1 r3 M14 h
          · have h := h.2 c
            refine g_aload_n X dRE_symbolFault_90 rfl 1 rfl ?_
            refine g_geti X hK.1 fw_RE_54 ly_39 rfl dRE_symbolFault_91 ?_
            refine g_iload_n X dRE_symbolFault_94 rfl 2 rfl ?_
            refine g_iconst X (v := (1 : Int32)) dRE_symbolFault_95 (by decide) ?_
            refine g_isub X dRE_symbolFault_96 ?_
            refine g_icmp_ge X dRE_symbolFault_97 (fun c => ?_) (fun c => ?_)
            · have h := h.1 c
              refine g_sub (L' := [(0, .ref (base + 39)), (1, .int a0), (2, .int a1), (3, .int r3)]) [1, 2, 3, 0] rfl ?_
              exact r_114 a0 a1 r3 M14 h
            · have h := h.2 c
              refine g_aload_n X dRE_symbolFault_100 rfl 1 rfl ?_
              refine g_getr X hK.1 fw_RE_15 ly_39 rfl dRE_symbolFault_101 ?_
              refine g_bipush X (v := (24 : Int32)) dRE_symbolFault_104 (by decide) ?_
              refine g_iload_n X dRE_symbolFault_106 rfl 3 rfl ?_
              refine g_bipush X (v := (12 : Int32)) dRE_symbolFault_107 (by decide) ?_
              refine g_iadd X dRE_symbolFault_109 ?_
              refine g_callVN X hK gTs_ok ly_32 rfl mw_FI_tell nw_786 mi_FI_tell ms_FI_tell (As := [.int (24 : Int32), .int (a1 + (12 : Int32))]) rfl ⟨(Nat.le_of_ble_eq_true rfl), (Nat.le_of_ble_eq_true rfl), Nat.le_refl _, Nat.le_refl _⟩ (m_FI_tell h) (rest := []) rfl (Nat.le_of_ble_eq_true rfl) dRE_symbolFault_110 (gk_i (fun r32 M33 h => ?_))
              exact g_iret X hr hlk dRE_symbolFault_113 ⟨_, rfl, h⟩
        · have h := h.2 c
          refine g_aload_n X dRE_symbolFault_72 rfl 1 rfl ?_
          refine g_getr X hK.1 fw_RE_15 ly_39 rfl dRE_symbolFault_73 ?_
          refine g_bipush X (v := (23 : Int32)) dRE_symbolFault_76 (by decide) ?_
          refine g_iload_n X dRE_symbolFault_78 rfl 3 rfl ?_
          refine g_bipush X (v := (13 : Int32)) dRE_symbolFault_79 (by decide) ?_
          refine g_iadd X dRE_symbolFault_81 ?_
          refine g_callVN X hK gTs_ok ly_32 rfl mw_FI_tell nw_786 mi_FI_tell ms_FI_tell (As := [.int (23 : Int32), .int (a1 + (13 : Int32))]) rfl ⟨(Nat.le_of_ble_eq_true rfl), (Nat.le_of_ble_eq_true rfl), Nat.le_refl _, Nat.le_refl _⟩ (m_FI_tell h) (rest := []) rfl (Nat.le_of_ble_eq_true rfl) dRE_symbolFault_82 (gk_i (fun r34 M35 h => ?_))
          exact g_iret X hr hlk dRE_symbolFault_85 ⟨_, rfl, h⟩
      · have h := h.2 c
        refine g_sub (L' := [(0, .ref (base + 39)), (2, .int a1)]) [1, 3] rfl ?_
        exact r_44 a1 M12 h
  · have h := h.2 c
    refine g_aload_n X dRE_symbolFault_9 rfl 0 rfl ?_
    refine g_getr X hK.1 fw_RE_15 ly_39 rfl dRE_symbolFault_10 ?_
    refine g_bipush X (v := (22 : Int32)) dRE_symbolFault_13 (by decide) ?_
    refine g_iload_n X dRE_symbolFault_15 rfl 2 rfl ?_
    refine g_callVN X hK gTs_ok ly_32 rfl mw_FI_tell nw_786 mi_FI_tell ms_FI_tell (As := [.int (22 : Int32), .int a1]) rfl ⟨(Nat.le_of_ble_eq_true rfl), (Nat.le_of_ble_eq_true rfl), Nat.le_refl _, Nat.le_refl _⟩ (m_FI_tell h) (rest := []) rfl (Nat.le_of_ble_eq_true rfl) dRE_symbolFault_16 (gk_i (fun r36 M37 h => ?_))
    exact g_iret X hr hlk dRE_symbolFault_19 ⟨_, rfl, h⟩
set_option maxRecDepth 100000 in
set_option maxHeartbeats 4000000 in
theorem m_RE_symbolsFault {l : Launch} {D : va_G} {ta : Nat → ClassId} {base : Nat} {sa : Nat → Nat} {post : Int32 → gMem → Prop} {M : gMem} (h : wp_RE_symbolsFault post M) : GC gLay gCl D ta base gNw sa gTabs gTs l y_RE_symbolsFault b_RE_symbolsFault 5 (some .int) 4 94 [.ref (base + 39)] M (gPi post) := by
  refine GC.of (own := "ObjectFile$Reader") pn_RE rfl (Nat.le_of_ble_eq_true rfl) ?_
  intro p e s m below meth c X hK hr hlk
  have r_61 : ∀ (n : Nat) (v1 : Int32) (v2 : Int32) (v3 : Int32) (M : gMem), wl_RE_symbolsFault_61 post n v1 v2 v3 M → GMx D ta base p l e 4 94 s m [.ref (base + 39)] below meth c (gPi post) 5 61 [(0, .ref (base + 39)), (1, .int v1), (2, .int v2), (3, .int v3)] [] M := by
    intro n
    induction n with
    | zero => exact fun _ _ _ M h => h.elim
    | succ n ih =>
      intro v1 v2 v3 M h
      refine g_iload_n X dRE_symbolsFault_61 rfl 3 rfl ?_
      refine g_iload_n X dRE_symbolsFault_62 rfl 2 rfl ?_
      refine g_icmp_ge X dRE_symbolsFault_63 (fun c => ?_) (fun c => ?_)
      · have h := h.1 c
        refine g_aload_n X dRE_symbolsFault_93 rfl 0 rfl ?_
        refine g_getr X hK.1 fw_RE_19 ly_39 rfl dRE_symbolsFault_94 ?_
        refine g_getrN X hK.1 (gNw_of hK) fw_RE_64 ly_33 rfl dRE_symbolsFault_97 ?_
        refine g_bipush X (v := (8 : Int32)) dRE_symbolsFault_100 (by decide) ?_
        obtain ⟨hi, h⟩ := h
        refine g_iald X hK.1 ly_35 hi dRE_symbolsFault_102 ?_
        refine g_topi (fun x5 ex5 => ?_)
        have h := h x5 ex5
        refine g_istore_n X (L' := [(3, .int x5), (0, .ref (base + 39)), (1, .int v1), (2, .int v2)]) dRE_symbolsFault_103 rfl (Nat.le_of_ble_eq_true rfl) rfl ?_
        refine g_aload_n X dRE_symbolsFault_104 rfl 1 rfl ?_
        refine g_getr X hK.1 fw_RE_19 ly_39 rfl dRE_symbolsFault_105 ?_
        refine g_iload_n X dRE_symbolsFault_108 rfl 0 rfl ?_
        refine g_bipush X (v := (7 : Int32)) dRE_symbolsFault_109 (by decide) ?_
        refine g_callVN X hK gTs_ok ly_33 rfl mw_DI_numberOf nw_836 mi_DI_numberOf ms_DI_numberOf (As := [.int x5, .int (7 : Int32)]) rfl ⟨(Nat.le_of_ble_eq_true rfl), (Nat.le_of_ble_eq_true rfl), Nat.le_refl _, Nat.le_refl _⟩ (m_DI_numberOf h) (rest := []) rfl (Nat.le_of_ble_eq_true rfl) dRE_symbolsFault_111 (gk_l (fun r6 M7 h => ?_))
        refine g_iconst X (v := (1 : Int32)) dRE_symbolsFault_114 (by decide) ?_
        refine g_aload_n X dRE_symbolsFault_115 rfl 1 rfl ?_
        refine g_geti X hK.1 fw_RE_54 ly_39 rfl dRE_symbolsFault_116 ?_
        refine g_iadd X dRE_symbolsFault_119 ?_
        refine g_i2l X dRE_symbolsFault_120 rfl ?_
        refine g_lif_eq X dRE_symbolsFault_121 dRE_symbolsFault_122 (fun c => ?_) (fun c => ?_)
        · have h := h.1 c
          refine g_iconst X (v := (0 : Int32)) dRE_symbolsFault_140 (by decide) ?_
          exact g_iret X hr hlk dRE_symbolsFault_141 ⟨_, rfl, h⟩
        · have h := h.2 c
          refine g_aload_n X dRE_symbolsFault_125 rfl 1 rfl ?_
          refine g_getr X hK.1 fw_RE_19 ly_39 rfl dRE_symbolsFault_126 ?_
          refine g_bipush X (v := (28 : Int32)) dRE_symbolsFault_129 (by decide) ?_
          refine g_iload_n X dRE_symbolsFault_131 rfl 0 rfl ?_
          refine g_bipush X (v := (7 : Int32)) dRE_symbolsFault_132 (by decide) ?_
          refine g_callVN X hK gTs_ok ly_33 rfl mw_DI_tellEntry nw_837 mi_DI_tellEntry ms_DI_tellEntry (As := [.int (28 : Int32), .int x5, .int (7 : Int32)]) rfl ⟨(Nat.le_of_ble_eq_true rfl), (Nat.le_of_ble_eq_true rfl), Nat.le_refl _, Nat.le_refl _⟩ (m_DI_tellEntry h) (rest := []) rfl (Nat.le_of_ble_eq_true rfl) dRE_symbolsFault_134 (gk_i (fun r8 M9 h => ?_))
          refine g_goto X dRE_symbolsFault_137 ?_
          exact g_iret X hr hlk dRE_symbolsFault_141 ⟨_, rfl, h⟩
      · have h := h.2 c
        refine g_aload_n X dRE_symbolsFault_66 rfl 0 rfl ?_
        refine g_iload_n X dRE_symbolsFault_67 rfl 3 rfl ?_
        refine g_iload_n X dRE_symbolsFault_68 rfl 1 rfl ?_
        refine g_bipush X (v := (16 : Int32)) dRE_symbolsFault_69 (by decide) ?_
        refine g_iload_n X dRE_symbolsFault_71 rfl 3 rfl ?_
        refine g_imul X dRE_symbolsFault_72 ?_
        refine g_iadd X dRE_symbolsFault_73 ?_
        refine g_callV X hK gTs_ok ly_39 rfl mw_RE_symbolFault tw_791 mi_RE_symbolFault ms_RE_symbolFault (As := [.int v3, .int (v1 + ((16 : Int32) * v3))]) rfl ⟨(Nat.le_of_ble_eq_true rfl), (Nat.le_of_ble_eq_true rfl), Nat.le_refl _, Nat.le_refl _⟩ (m_RE_symbolFault h) (rest := []) rfl (Nat.le_of_ble_eq_true rfl) dRE_symbolsFault_74 (gk_i (fun r10 M11 h => ?_))
        refine g_istore X (L' := [(4, .int r10), (0, .ref (base + 39)), (1, .int v1), (2, .int v2), (3, .int v3)]) dRE_symbolsFault_77 (Nat.le_of_ble_eq_true rfl) rfl ?_
        refine g_iload X dRE_symbolsFault_79 0 rfl ?_
        refine g_if_eq X dRE_symbolsFault_81 (fun c => ?_) (fun c => ?_)
        · have h := h.1 c
          obtain ⟨x12, ex12⟩ : ∃ z : Int32, z = v3 + (1 : Int32) := ⟨_, rfl⟩
          have h := h x12 ex12
          refine g_iinc X (L' := [(3, .int x12), (4, .int r10), (0, .ref (base + 39)), (1, .int v1), (2, .int v2)]) (k := 4) dRE_symbolsFault_87 rfl (v := x12) (by rw [ex12]; rfl) (Nat.le_of_ble_eq_true rfl) rfl ?_
          refine g_goto X dRE_symbolsFault_90 ?_
          refine g_sub (L' := [(0, .ref (base + 39)), (1, .int v1), (2, .int v2), (3, .int x12)]) [2, 3, 4, 0] rfl ?_
          exact ih v1 v2 x12 M11 h
        · have h := h.2 c
          refine g_iload X dRE_symbolsFault_84 0 rfl ?_
          exact g_iret X hr hlk dRE_symbolsFault_86 ⟨_, rfl, h⟩
  have r_13 : ∀ (n : Nat) (v1 : Int32) (v2 : Int32) (M : gMem), wl_RE_symbolsFault_13 post n v1 v2 M → GMx D ta base p l e 4 94 s m [.ref (base + 39)] below meth c (gPi post) 5 13 [(0, .ref (base + 39)), (1, .int v1), (2, .int v2)] [] M := by
    intro n
    induction n with
    | zero => exact fun _ _ M h => h.elim
    | succ n ih =>
      intro v1 v2 M h
      refine g_iload_n X dRE_symbolsFault_13 rfl 2 rfl ?_
      refine g_iload_n X dRE_symbolsFault_14 rfl 1 rfl ?_
      refine g_bipush X (v := (16 : Int32)) dRE_symbolsFault_15 (by decide) ?_
      refine g_iadd X dRE_symbolsFault_17 ?_
      refine g_icmp_ge X dRE_symbolsFault_18 (fun c => ?_) (fun c => ?_)
      · have h := h.1 c
        refine g_aload_n X dRE_symbolsFault_49 rfl 0 rfl ?_
        refine g_iconst X (v := (0 : Int32)) dRE_symbolsFault_50 (by decide) ?_
        refine g_puti X hK.1 fw_RE_54 pw_RE_3 ly_39 rfl dRE_symbolsFault_51 ?_
        refine g_topM (fun M2 eM2 => ?_)
        have h := h M2 eM2
        refine g_aload_n X dRE_symbolsFault_54 rfl 0 rfl ?_
        refine g_callV X hK gTs_ok ly_39 rfl mw_RE_symbolRows tw_787 mi_RE_symbolRows ms_RE_symbolRows (As := []) rfl ⟨(Nat.le_of_ble_eq_true rfl), (Nat.le_of_ble_eq_true rfl), Nat.le_refl _, Nat.le_refl _⟩ (m_RE_symbolRows h) (rest := []) rfl (Nat.le_of_ble_eq_true rfl) dRE_symbolsFault_55 (gk_i (fun r3 M4 h => ?_))
        refine g_istore_n X (L' := [(2, .int r3), (0, .ref (base + 39)), (1, .int v1)]) dRE_symbolsFault_58 rfl (Nat.le_of_ble_eq_true rfl) rfl ?_
        refine g_iconst X (v := (1 : Int32)) dRE_symbolsFault_59 (by decide) ?_
        refine g_istore_n X (L' := [(3, .int (1 : Int32)), (2, .int r3), (0, .ref (base + 39)), (1, .int v1)]) dRE_symbolsFault_60 rfl (Nat.le_of_ble_eq_true rfl) rfl ?_
        refine g_sub (L' := [(0, .ref (base + 39)), (1, .int v1), (2, .int r3), (3, .int (1 : Int32))]) [2, 3, 1, 0] rfl ?_
        obtain ⟨n9, h⟩ := h
        exact r_61 n9 v1 r3 (1 : Int32) M4 h
      · have h := h.2 c
        refine g_aload_n X dRE_symbolsFault_21 rfl 0 rfl ?_
        refine g_getr X hK.1 fw_RE_9 ly_39 rfl dRE_symbolsFault_22 ?_
        refine g_iload_n X dRE_symbolsFault_25 rfl 2 rfl ?_
        refine g_callVN X hK gTs_ok ly_17 rfl mw_FB_u1 nw_785 mi_FB_u1 ms_FB_u1 (As := [.int v2]) rfl ⟨(Nat.le_of_ble_eq_true rfl), (Nat.le_of_ble_eq_true rfl), Nat.le_refl _, Nat.le_refl _⟩ (m_FB_u1 h) (rest := []) rfl (Nat.le_of_ble_eq_true rfl) dRE_symbolsFault_26 (gk_i (fun r13 M14 h => ?_))
        refine g_if_eq X dRE_symbolsFault_29 (fun c => ?_) (fun c => ?_)
        · have h := h.1 c
          obtain ⟨x15, ex15⟩ : ∃ z : Int32, z = v2 + (1 : Int32) := ⟨_, rfl⟩
          have h := h x15 ex15
          refine g_iinc X (L' := [(2, .int x15), (0, .ref (base + 39)), (1, .int v1)]) (k := 2) dRE_symbolsFault_43 rfl (v := x15) (by rw [ex15]; rfl) (Nat.le_of_ble_eq_true rfl) rfl ?_
          refine g_goto X dRE_symbolsFault_46 ?_
          refine g_sub (L' := [(0, .ref (base + 39)), (1, .int v1), (2, .int x15)]) [1, 2, 0] rfl ?_
          exact ih v1 x15 M14 h
        · have h := h.2 c
          refine g_aload_n X dRE_symbolsFault_32 rfl 0 rfl ?_
          refine g_getr X hK.1 fw_RE_15 ly_39 rfl dRE_symbolsFault_33 ?_
          refine g_bipush X (v := (21 : Int32)) dRE_symbolsFault_36 (by decide) ?_
          refine g_iload_n X dRE_symbolsFault_38 rfl 2 rfl ?_
          refine g_callVN X hK gTs_ok ly_32 rfl mw_FI_tell nw_786 mi_FI_tell ms_FI_tell (As := [.int (21 : Int32), .int v2]) rfl ⟨(Nat.le_of_ble_eq_true rfl), (Nat.le_of_ble_eq_true rfl), Nat.le_refl _, Nat.le_refl _⟩ (m_FI_tell h) (rest := []) rfl (Nat.le_of_ble_eq_true rfl) dRE_symbolsFault_39 (gk_i (fun r16 M17 h => ?_))
          exact g_iret X hr hlk dRE_symbolsFault_42 ⟨_, rfl, h⟩
  refine g_args (L' := [(0, .ref (base + 39))]) rfl ?_
  unfold wp_RE_symbolsFault at h
  refine g_aload_n X dRE_symbolsFault_0 rfl 0 rfl ?_
  refine g_getr X hK.1 fw_RE_19 ly_39 rfl dRE_symbolsFault_1 ?_
  refine g_getrN X hK.1 (gNw_of hK) fw_RE_39 ly_33 rfl dRE_symbolsFault_4 ?_
  refine g_bipush X (v := (8 : Int32)) dRE_symbolsFault_7 (by decide) ?_
  obtain ⟨hi, h⟩ := h
  refine g_iald X hK.1 ly_36 hi dRE_symbolsFault_9 ?_
  refine g_topi (fun x1 ex1 => ?_)
  have h := h x1 ex1
  refine g_istore_n X (L' := [(1, .int x1), (0, .ref (base + 39))]) dRE_symbolsFault_10 rfl (Nat.le_of_ble_eq_true rfl) rfl ?_
  refine g_iload_n X dRE_symbolsFault_11 rfl 0 rfl ?_
  refine g_istore_n X (L' := [(2, .int x1), (1, .int x1), (0, .ref (base + 39))]) dRE_symbolsFault_12 rfl (Nat.le_of_ble_eq_true rfl) rfl ?_
  refine g_sub (L' := [(0, .ref (base + 39)), (1, .int x1), (2, .int x1)]) [2, 1, 0] rfl ?_
  obtain ⟨n9, h⟩ := h
  exact r_13 n9 x1 x1 M h
set_option maxRecDepth 100000 in
set_option maxHeartbeats 4000000 in
theorem m_RE_relocationFault {l : Launch} {D : va_G} {ta : Nat → ClassId} {base : Nat} {sa : Nat → Nat} {post : Int32 → gMem → Prop} {a0 : Int32} {a1 : Int32} {M : gMem} (h : wp_RE_relocationFault post a0 a1 M) : GC gLay gCl D ta base gNw sa gTabs gTs l y_RE_relocationFault b_RE_relocationFault 7 (some .int) 2 44 [.ref (base + 39), .int a0, .int a1] M (gPi post) := by
  refine GC.of (own := "ObjectFile$Reader") pn_RE rfl (Nat.le_of_ble_eq_true rfl) ?_
  intro p e s m below meth c X hK hr hlk
  have r_65 : ∀ (v2 : Int32) (M : gMem), wj_RE_relocationFault_65 post v2 M → GMx D ta base p l e 2 44 s m [.ref (base + 39), .int a0, .int a1] below meth c (gPi post) 7 65 [(0, .ref (base + 39)), (2, .int v2)] [] M := by
    intro v2 M h
    unfold wj_RE_relocationFault_65 at h
    refine g_aload_n X dRE_relocationFault_65 rfl 0 rfl ?_
    refine g_getr X hK.1 fw_RE_15 ly_39 rfl dRE_relocationFault_66 ?_
    refine g_bipush X (v := (30 : Int32)) dRE_relocationFault_69 (by decide) ?_
    refine g_iload_n X dRE_relocationFault_71 rfl 1 rfl ?_
    refine g_iconst X (v := (4 : Int32)) dRE_relocationFault_72 (by decide) ?_
    refine g_iadd X dRE_relocationFault_73 ?_
    refine g_callVN X hK gTs_ok ly_32 rfl mw_FI_tell nw_786 mi_FI_tell ms_FI_tell (As := [.int (30 : Int32), .int (v2 + (4 : Int32))]) rfl ⟨(Nat.le_of_ble_eq_true rfl), (Nat.le_of_ble_eq_true rfl), Nat.le_refl _, Nat.le_refl _⟩ (m_FI_tell h) (rest := []) rfl (Nat.le_of_ble_eq_true rfl) dRE_relocationFault_74 (gk_i (fun r9 M10 h => ?_))
    exact g_iret X hr hlk dRE_relocationFault_77 ⟨_, rfl, h⟩
  have r_150 : ∀ (v2 : Int32) (s0 : Int32) (M : gMem), wj_RE_relocationFault_150 post v2 s0 M → GMx D ta base p l e 2 44 s m [.ref (base + 39), .int a0, .int a1] below meth c (gPi post) 7 150 [(0, .ref (base + 39)), (2, .int v2)] [.int s0] M := by
    intro v2 s0 M h
    unfold wj_RE_relocationFault_150 at h
    refine g_istore X (L' := [(6, .int s0), (0, .ref (base + 39)), (2, .int v2)]) dRE_relocationFault_150 (Nat.le_of_ble_eq_true rfl) rfl ?_
    refine g_iload X dRE_relocationFault_152 0 rfl ?_
    refine g_if_eq X dRE_relocationFault_154 (fun c => ?_) (fun c => ?_)
    · have h := h.1 c
      refine g_iconst X (v := (0 : Int32)) dRE_relocationFault_170 (by decide) ?_
      exact g_iret X hr hlk dRE_relocationFault_171 ⟨_, rfl, h⟩
    · have h := h.2 c
      refine g_aload_n X dRE_relocationFault_157 rfl 1 rfl ?_
      refine g_getr X hK.1 fw_RE_15 ly_39 rfl dRE_relocationFault_158 ?_
      refine g_bipush X (v := (32 : Int32)) dRE_relocationFault_161 (by decide) ?_
      refine g_iload_n X dRE_relocationFault_163 rfl 2 rfl ?_
      refine g_callVN X hK gTs_ok ly_32 rfl mw_FI_tell nw_786 mi_FI_tell ms_FI_tell (As := [.int (32 : Int32), .int v2]) rfl ⟨(Nat.le_of_ble_eq_true rfl), (Nat.le_of_ble_eq_true rfl), Nat.le_refl _, Nat.le_refl _⟩ (m_FI_tell h) (rest := []) rfl (Nat.le_of_ble_eq_true rfl) dRE_relocationFault_164 (gk_i (fun r22 M23 h => ?_))
      refine g_goto X dRE_relocationFault_167 ?_
      exact g_iret X hr hlk dRE_relocationFault_171 ⟨_, rfl, h⟩
  have r_62 : ∀ (v1 : Int32) (v2 : Int32) (v3 : Int32) (s0 : Int32) (s1 : Int32) (M : gMem), wj_RE_relocationFault_62 post v1 v2 v3 s0 s1 M → GMx D ta base p l e 2 44 s m [.ref (base + 39), .int a0, .int a1] below meth c (gPi post) 7 62 [(0, .ref (base + 39)), (1, .int v1), (2, .int v2), (3, .int v3)] [.int s0, .int s1] M := by
    intro v1 v2 v3 s0 s1 M h
    unfold wj_RE_relocationFault_62 at h
    refine g_icmp_eq X dRE_relocationFault_62 (fun c => ?_) (fun c => ?_)
    · have h := h.1 c
      refine g_aload_n X dRE_relocationFault_78 rfl 0 rfl ?_
      refine g_getr X hK.1 fw_RE_9 ly_39 rfl dRE_relocationFault_79 ?_
      refine g_iload_n X dRE_relocationFault_82 rfl 2 rfl ?_
      refine g_bipush X (v := (8 : Int32)) dRE_relocationFault_83 (by decide) ?_
      refine g_iadd X dRE_relocationFault_85 ?_
      refine g_callVN X hK gTs_ok ly_17 rfl mw_FB_u4 nw_799 mi_FB_u4 ms_FB_u4 (As := [.int (v2 + (8 : Int32))]) rfl ⟨(Nat.le_of_ble_eq_true rfl), (Nat.le_of_ble_eq_true rfl), Nat.le_refl _, Nat.le_refl _⟩ (m_FB_u4 h) (rest := []) rfl (Nat.le_of_ble_eq_true rfl) dRE_relocationFault_86 (gk_l (fun r13 M14 h => ?_))
      refine g_l2i X dRE_relocationFault_89 rfl ?_
      refine g_topi (fun x15 ex15 => ?_)
      have h := h x15 ex15
      refine g_istore X (L' := [(5, .int x15), (0, .ref (base + 39)), (1, .int v1), (2, .int v2), (3, .int v3)]) dRE_relocationFault_90 (Nat.le_of_ble_eq_true rfl) rfl ?_
      refine g_iload_n X dRE_relocationFault_92 rfl 4 rfl ?_
      refine g_iload X dRE_relocationFault_93 0 rfl ?_
      refine g_callSN X hK gTs_ok mw_OF_addendMayBe nw_852 mt_OF_addendMayBe (As := [.int v3, .int x15]) rfl ⟨(Nat.le_of_ble_eq_true rfl), (Nat.le_of_ble_eq_true rfl), Nat.le_refl _, Nat.le_refl _⟩ (m_OF_addendMayBe h) (rest := []) rfl (Nat.le_of_ble_eq_true rfl) dRE_relocationFault_95 (gk_z (fun r16 M17 h => ?_))
      refine g_if_ne X dRE_relocationFault_98 (fun c => ?_) (fun c => ?_)
      · have h := h.1 c
        refine g_aload_n X dRE_relocationFault_115 rfl 1 rfl ?_
        refine g_getr X hK.1 fw_RE_9 ly_39 rfl dRE_relocationFault_116 ?_
        refine g_iload_n X dRE_relocationFault_119 rfl 3 rfl ?_
        refine g_callVN X hK gTs_ok ly_17 rfl mw_FB_u4 nw_799 mi_FB_u4 ms_FB_u4 (As := [.int v2]) rfl ⟨(Nat.le_of_ble_eq_true rfl), (Nat.le_of_ble_eq_true rfl), Nat.le_refl _, Nat.le_refl _⟩ (m_FB_u4 h) (rest := []) rfl (Nat.le_of_ble_eq_true rfl) dRE_relocationFault_120 (gk_l (fun r18 M19 h => ?_))
        refine g_iload_n X dRE_relocationFault_123 rfl 4 rfl ?_
        refine g_iload X dRE_relocationFault_124 0 rfl ?_
        refine g_callSN X hK gTs_ok mw_OF_widthOf nw_853 mt_OF_widthOf (As := [.int v3, .int x15]) rfl ⟨(Nat.le_of_ble_eq_true rfl), (Nat.le_of_ble_eq_true rfl), Nat.le_refl _, Nat.le_refl _⟩ (m_OF_widthOf h) (rest := [.long r18]) rfl (Nat.le_of_ble_eq_true rfl) dRE_relocationFault_126 (gk_i (fun r20 M21 h => ?_))
        refine g_i2l X dRE_relocationFault_129 rfl ?_
        refine g_ladd X dRE_relocationFault_130 ?_
        refine g_aload_n X dRE_relocationFault_131 rfl 1 rfl ?_
        refine g_getr X hK.1 fw_RE_19 ly_39 rfl dRE_relocationFault_132 ?_
        refine g_getrN X hK.1 (gNw_of hK) fw_RE_33 ly_33 rfl dRE_relocationFault_135 ?_
        refine g_iload_n X dRE_relocationFault_138 rfl 2 rfl ?_
        obtain ⟨hi, h⟩ := h
        refine g_iald X hK.1 ly_37 hi dRE_relocationFault_139 ?_
        refine g_i2l X dRE_relocationFault_140 rfl ?_
        refine g_lif_le X dRE_relocationFault_141 dRE_relocationFault_142 (fun c => ?_) (fun c => ?_)
        · have h := h.1 c
          refine g_iconst X (v := (0 : Int32)) dRE_relocationFault_149 (by decide) ?_
          refine g_sub (L' := [(0, .ref (base + 39)), (2, .int v2)]) [1, 3] rfl ?_
          exact r_150 v2 (0 : Int32) M21 h
        · have h := h.2 c
          refine g_iconst X (v := (1 : Int32)) dRE_relocationFault_145 (by decide) ?_
          refine g_goto X dRE_relocationFault_146 ?_
          refine g_sub (L' := [(0, .ref (base + 39)), (2, .int v2)]) [1, 3] rfl ?_
          exact r_150 v2 (1 : Int32) M21 h
      · have h := h.2 c
        refine g_aload_n X dRE_relocationFault_101 rfl 1 rfl ?_
        refine g_getr X hK.1 fw_RE_15 ly_39 rfl dRE_relocationFault_102 ?_
        refine g_bipush X (v := (31 : Int32)) dRE_relocationFault_105 (by decide) ?_
        refine g_iload_n X dRE_relocationFault_107 rfl 3 rfl ?_
        refine g_bipush X (v := (8 : Int32)) dRE_relocationFault_108 (by decide) ?_
        refine g_iadd X dRE_relocationFault_110 ?_
        refine g_callVN X hK gTs_ok ly_32 rfl mw_FI_tell nw_786 mi_FI_tell ms_FI_tell (As := [.int (31 : Int32), .int (v2 + (8 : Int32))]) rfl ⟨(Nat.le_of_ble_eq_true rfl), (Nat.le_of_ble_eq_true rfl), Nat.le_refl _, Nat.le_refl _⟩ (m_FI_tell h) (rest := []) rfl (Nat.le_of_ble_eq_true rfl) dRE_relocationFault_111 (gk_i (fun r24 M25 h => ?_))
        exact g_iret X hr hlk dRE_relocationFault_114 ⟨_, rfl, h⟩
    · have h := h.2 c
      refine g_sub (L' := [(0, .ref (base + 39)), (2, .int v2)]) [0, 2] rfl ?_
      exact r_65 v2 M h
  refine g_args (L' := [(0, .ref (base + 39)), (1, .int a0), (2, .int a1)]) rfl ?_
  unfold wp_RE_relocationFault at h
  refine g_aload_n X dRE_relocationFault_0 rfl 0 rfl ?_
  refine g_getr X hK.1 fw_RE_9 ly_39 rfl dRE_relocationFault_1 ?_
  refine g_iload_n X dRE_relocationFault_4 rfl 2 rfl ?_
  refine g_iconst X (v := (4 : Int32)) dRE_relocationFault_5 (by decide) ?_
  refine g_iadd X dRE_relocationFault_6 ?_
  refine g_callVN X hK gTs_ok ly_17 rfl mw_FB_u1 nw_785 mi_FB_u1 ms_FB_u1 (As := [.int (a1 + (4 : Int32))]) rfl ⟨(Nat.le_of_ble_eq_true rfl), (Nat.le_of_ble_eq_true rfl), Nat.le_refl _, Nat.le_refl _⟩ (m_FB_u1 h) (rest := []) rfl (Nat.le_of_ble_eq_true rfl) dRE_relocationFault_7 (gk_i (fun r1 M2 h => ?_))
  refine g_istore_n X (L' := [(3, .int r1), (0, .ref (base + 39)), (1, .int a0), (2, .int a1)]) dRE_relocationFault_10 rfl (Nat.le_of_ble_eq_true rfl) rfl ?_
  refine g_iload_n X dRE_relocationFault_11 rfl 2 rfl ?_
  refine g_iload_n X dRE_relocationFault_12 rfl 0 rfl ?_
  refine g_callSN X hK gTs_ok mw_OF_kindMayBeIn nw_846 mt_OF_kindMayBeIn (As := [.int a0, .int r1]) rfl ⟨(Nat.le_of_ble_eq_true rfl), (Nat.le_of_ble_eq_true rfl), Nat.le_refl _, Nat.le_refl _⟩ (m_OF_kindMayBeIn h) (rest := []) rfl (Nat.le_of_ble_eq_true rfl) dRE_relocationFault_13 (gk_z (fun r3 M4 h => ?_))
  refine g_if_ne X dRE_relocationFault_16 (fun c => ?_) (fun c => ?_)
  · have h := h.1 c
    refine g_aload_n X dRE_relocationFault_32 rfl 1 rfl ?_
    refine g_iload_n X dRE_relocationFault_33 rfl 3 rfl ?_
    refine g_callV X hK gTs_ok ly_39 rfl mw_RE_symbolNumber tw_847 mi_RE_symbolNumber ms_RE_symbolNumber (As := [.int a1]) rfl ⟨(Nat.le_of_ble_eq_true rfl), (Nat.le_of_ble_eq_true rfl), Nat.le_refl _, Nat.le_refl _⟩ (m_RE_symbolNumber h) (rest := []) rfl (Nat.le_of_ble_eq_true rfl) dRE_relocationFault_34 (gk_i (fun r5 M6 h => ?_))
    refine g_istore X (L' := [(4, .int r5), (3, .int r1), (0, .ref (base + 39)), (1, .int a0), (2, .int a1)]) dRE_relocationFault_37 (Nat.le_of_ble_eq_true rfl) rfl ?_
    refine g_iload X dRE_relocationFault_39 0 rfl ?_
    refine g_aload_n X dRE_relocationFault_41 rfl 2 rfl ?_
    refine g_callV X hK gTs_ok ly_39 rfl mw_RE_symbolRows tw_787 mi_RE_symbolRows ms_RE_symbolRows (As := []) rfl ⟨(Nat.le_of_ble_eq_true rfl), (Nat.le_of_ble_eq_true rfl), Nat.le_refl _, Nat.le_refl _⟩ (m_RE_symbolRows h) (rest := [.int r5]) rfl (Nat.le_of_ble_eq_true rfl) dRE_relocationFault_42 (gk_i (fun r7 M8 h => ?_))
    refine g_icmp_ge X dRE_relocationFault_45 (fun c => ?_) (fun c => ?_)
    · have h := h.1 c
      refine g_sub (L' := [(0, .ref (base + 39)), (2, .int a1)]) [2, 4] rfl ?_
      exact r_65 a1 M8 h
    · have h := h.2 c
      refine g_iload_n X dRE_relocationFault_48 rfl 1 rfl ?_
      refine g_callSN X hK gTs_ok mw_OF_hasSymbol nw_851 mt_OF_hasSymbol (As := [.int r1]) rfl ⟨(Nat.le_of_ble_eq_true rfl), (Nat.le_of_ble_eq_true rfl), Nat.le_refl _, Nat.le_refl _⟩ (m_OF_hasSymbol h) (rest := []) rfl (Nat.le_of_ble_eq_true rfl) dRE_relocationFault_49 (gk_z (fun r11 M12 h => ?_))
      refine g_iload X dRE_relocationFault_52 0 rfl ?_
      refine g_if_eq X dRE_relocationFault_54 (fun c => ?_) (fun c => ?_)
      · have h := h.1 c
        refine g_iconst X (v := (0 : Int32)) dRE_relocationFault_61 (by decide) ?_
        refine g_sub (L' := [(0, .ref (base + 39)), (1, .int a0), (2, .int a1), (3, .int r1)]) [2, 3, 4, 1] rfl ?_
        exact r_62 a0 a1 r1 (0 : Int32) (bI r11) M12 h
      · have h := h.2 c
        refine g_iconst X (v := (1 : Int32)) dRE_relocationFault_57 (by decide) ?_
        refine g_goto X dRE_relocationFault_58 ?_
        refine g_sub (L' := [(0, .ref (base + 39)), (1, .int a0), (2, .int a1), (3, .int r1)]) [2, 3, 4, 1] rfl ?_
        exact r_62 a0 a1 r1 (1 : Int32) (bI r11) M12 h
  · have h := h.2 c
    refine g_aload_n X dRE_relocationFault_19 rfl 1 rfl ?_
    refine g_getr X hK.1 fw_RE_15 ly_39 rfl dRE_relocationFault_20 ?_
    refine g_bipush X (v := (29 : Int32)) dRE_relocationFault_23 (by decide) ?_
    refine g_iload_n X dRE_relocationFault_25 rfl 3 rfl ?_
    refine g_iconst X (v := (4 : Int32)) dRE_relocationFault_26 (by decide) ?_
    refine g_iadd X dRE_relocationFault_27 ?_
    refine g_callVN X hK gTs_ok ly_32 rfl mw_FI_tell nw_786 mi_FI_tell ms_FI_tell (As := [.int (29 : Int32), .int (a1 + (4 : Int32))]) rfl ⟨(Nat.le_of_ble_eq_true rfl), (Nat.le_of_ble_eq_true rfl), Nat.le_refl _, Nat.le_refl _⟩ (m_FI_tell h) (rest := []) rfl (Nat.le_of_ble_eq_true rfl) dRE_relocationFault_28 (gk_i (fun r26 M27 h => ?_))
    exact g_iret X hr hlk dRE_relocationFault_31 ⟨_, rfl, h⟩
set_option maxRecDepth 100000 in
set_option maxHeartbeats 4000000 in
theorem m_RE_relocationsFault {l : Launch} {D : va_G} {ta : Nat → ClassId} {base : Nat} {sa : Nat → Nat} {post : Int32 → gMem → Prop} {M : gMem} (h : wp_RE_relocationsFault post M) : GC gLay gCl D ta base gNw sa gTabs gTs l y_RE_relocationsFault b_RE_relocationsFault 6 (some .int) 3 70 [.ref (base + 39)] M (gPi post) := by
  refine GC.of (own := "ObjectFile$Reader") pn_RE rfl (Nat.le_of_ble_eq_true rfl) ?_
  intro p e s m below meth c X hK hr hlk
  have r_36 : ∀ (k2 : Int32 → gMem → Prop) (hk2 : ∀ (v1 : Int32) (M : gMem), k2 v1 M → GMx D ta base p l e 3 70 s m [.ref (base + 39)] below meth c (gPi post) 6 2 [(0, .ref (base + 39)), (1, .int v1)] [] M) (n : Nat) (v1 : Int32) (v3 : Int32) (v4 : Int32) (M : gMem), wl_RE_relocationsFault_36 post k2 n v1 v3 v4 M → GMx D ta base p l e 3 70 s m [.ref (base + 39)] below meth c (gPi post) 6 36 [(0, .ref (base + 39)), (1, .int v1), (3, .int v3), (4, .int v4)] [] M := by
    intro k2 hk2 n
    induction n with
    | zero => exact fun _ _ _ M h => h.elim
    | succ n ih =>
      intro v1 v3 v4 M h
      refine g_iload X dRE_relocationsFault_36 3 rfl ?_
      refine g_iload_n X dRE_relocationsFault_38 rfl 2 rfl ?_
      refine g_icmp_ge X dRE_relocationsFault_39 (fun c => ?_) (fun c => ?_)
      · have h := h.1 c
        obtain ⟨x3, ex3⟩ : ∃ z : Int32, z = v1 + (1 : Int32) := ⟨_, rfl⟩
        have h := h x3 ex3
        refine g_iinc X (L' := [(1, .int x3), (0, .ref (base + 39)), (3, .int v3), (4, .int v4)]) (k := 1) dRE_relocationsFault_65 rfl (v := x3) (by rw [ex3]; rfl) (Nat.le_of_ble_eq_true rfl) rfl ?_
        refine g_goto X dRE_relocationsFault_68 ?_
        refine g_sub (L' := [(0, .ref (base + 39)), (1, .int x3)]) [1, 0] rfl ?_
        exact hk2 x3 M h
      · have h := h.2 c
        refine g_aload_n X dRE_relocationsFault_42 rfl 0 rfl ?_
        refine g_iload_n X dRE_relocationsFault_43 rfl 1 rfl ?_
        refine g_iload X dRE_relocationsFault_44 3 rfl ?_
        refine g_callV X hK gTs_ok ly_39 rfl mw_RE_relocationFault tw_842 mi_RE_relocationFault ms_RE_relocationFault (As := [.int v1, .int v4]) rfl ⟨(Nat.le_of_ble_eq_true rfl), (Nat.le_of_ble_eq_true rfl), Nat.le_refl _, Nat.le_refl _⟩ (m_RE_relocationFault h) (rest := []) rfl (Nat.le_of_ble_eq_true rfl) dRE_relocationsFault_46 (gk_i (fun r4 M5 h => ?_))
        refine g_istore X (L' := [(5, .int r4), (0, .ref (base + 39)), (1, .int v1), (3, .int v3), (4, .int v4)]) dRE_relocationsFault_49 (Nat.le_of_ble_eq_true rfl) rfl ?_
        refine g_iload X dRE_relocationsFault_51 0 rfl ?_
        refine g_if_eq X dRE_relocationsFault_53 (fun c => ?_) (fun c => ?_)
        · have h := h.1 c
          obtain ⟨x6, ex6⟩ : ∃ z : Int32, z = v4 + (12 : Int32) := ⟨_, rfl⟩
          have h := h x6 ex6
          refine g_iinc X (L' := [(4, .int x6), (5, .int r4), (0, .ref (base + 39)), (1, .int v1), (3, .int v3)]) (k := 4) dRE_relocationsFault_59 rfl (v := x6) (by rw [ex6]; rfl) (Nat.le_of_ble_eq_true rfl) rfl ?_
          refine g_goto X dRE_relocationsFault_62 ?_
          refine g_sub (L' := [(0, .ref (base + 39)), (1, .int v1), (3, .int v3), (4, .int x6)]) [2, 3, 4, 0] rfl ?_
          exact ih v1 v3 x6 M5 h
        · have h := h.2 c
          refine g_iload X dRE_relocationsFault_56 0 rfl ?_
          exact g_iret X hr hlk dRE_relocationsFault_58 ⟨_, rfl, h⟩
  have r_2 : ∀ (n : Nat) (v1 : Int32) (M : gMem), wl_RE_relocationsFault_2 post n v1 M → GMx D ta base p l e 3 70 s m [.ref (base + 39)] below meth c (gPi post) 6 2 [(0, .ref (base + 39)), (1, .int v1)] [] M := by
    intro n
    induction n with
    | zero => exact fun _ M h => h.elim
    | succ n ih =>
      intro v1 M h
      refine g_iload_n X dRE_relocationsFault_2 rfl 1 rfl ?_
      refine g_iconst X (v := (2 : Int32)) dRE_relocationsFault_3 (by decide) ?_
      refine g_icmp_gt X dRE_relocationsFault_4 (fun c => ?_) (fun c => ?_)
      · have h := h.1 c
        refine g_iconst X (v := (0 : Int32)) dRE_relocationsFault_71 (by decide) ?_
        exact g_iret X hr hlk dRE_relocationsFault_72 ⟨_, rfl, h⟩
      · have h := h.2 c
        refine g_aload_n X dRE_relocationsFault_7 rfl 0 rfl ?_
        refine g_getr X hK.1 fw_RE_19 ly_39 rfl dRE_relocationsFault_8 ?_
        refine g_getrN X hK.1 (gNw_of hK) fw_RE_39 ly_33 rfl dRE_relocationsFault_11 ?_
        refine g_iconst X (v := (5 : Int32)) dRE_relocationsFault_14 (by decide) ?_
        refine g_iload_n X dRE_relocationsFault_15 rfl 1 rfl ?_
        refine g_iadd X dRE_relocationsFault_16 ?_
        obtain ⟨hi, h⟩ := h
        refine g_iald X hK.1 ly_36 hi dRE_relocationsFault_17 ?_
        refine g_topi (fun x1 ex1 => ?_)
        have h := h x1 ex1
        refine g_istore_n X (L' := [(2, .int x1), (0, .ref (base + 39)), (1, .int v1)]) dRE_relocationsFault_18 rfl (Nat.le_of_ble_eq_true rfl) rfl ?_
        refine g_iload_n X dRE_relocationsFault_19 rfl 0 rfl ?_
        refine g_aload_n X dRE_relocationsFault_20 rfl 1 rfl ?_
        refine g_getr X hK.1 fw_RE_19 ly_39 rfl dRE_relocationsFault_21 ?_
        refine g_getrN X hK.1 (gNw_of hK) fw_RE_33 ly_33 rfl dRE_relocationsFault_24 ?_
        refine g_iconst X (v := (5 : Int32)) dRE_relocationsFault_27 (by decide) ?_
        refine g_iload_n X dRE_relocationsFault_28 rfl 2 rfl ?_
        refine g_iadd X dRE_relocationsFault_29 ?_
        obtain ⟨hi, h⟩ := h
        refine g_iald X hK.1 ly_37 hi dRE_relocationsFault_30 ?_
        refine g_iadd X dRE_relocationsFault_31 ?_
        refine g_topi (fun x2 ex2 => ?_)
        have h := h x2 ex2
        refine g_istore_n X (L' := [(3, .int x2), (2, .int x1), (0, .ref (base + 39)), (1, .int v1)]) dRE_relocationsFault_32 rfl (Nat.le_of_ble_eq_true rfl) rfl ?_
        refine g_iload_n X dRE_relocationsFault_33 rfl 1 rfl ?_
        refine g_istore X (L' := [(4, .int x1), (3, .int x2), (2, .int x1), (0, .ref (base + 39)), (1, .int v1)]) dRE_relocationsFault_34 (Nat.le_of_ble_eq_true rfl) rfl ?_
        refine g_sub (L' := [(0, .ref (base + 39)), (1, .int v1), (3, .int x2), (4, .int x1)]) [3, 4, 1, 0] rfl ?_
        obtain ⟨n9, h⟩ := h
        exact r_36 _ (ih) n9 v1 x2 x1 M h
  refine g_args (L' := [(0, .ref (base + 39))]) rfl ?_
  unfold wp_RE_relocationsFault at h
  refine g_iconst X (v := (0 : Int32)) dRE_relocationsFault_0 (by decide) ?_
  refine g_istore_n X (L' := [(1, .int (0 : Int32)), (0, .ref (base + 39))]) dRE_relocationsFault_1 rfl (Nat.le_of_ble_eq_true rfl) rfl ?_
  refine g_sub (L' := [(0, .ref (base + 39)), (1, .int (0 : Int32))]) [1, 0] rfl ?_
  obtain ⟨n9, h⟩ := h
  exact r_2 n9 (0 : Int32) M h
set_option maxRecDepth 100000 in
set_option maxHeartbeats 4000000 in
theorem m_RE_startsFault {l : Launch} {D : va_G} {ta : Nat → ClassId} {base : Nat} {sa : Nat → Nat} {post : Int32 → gMem → Prop} {M : gMem} (h : wp_RE_startsFault post M) : GC gLay gCl D ta base gNw sa gTabs gTs l y_RE_startsFault b_RE_startsFault 8 (some .int) 1 23 [.ref (base + 39)] M (gPi post) := by
  refine GC.of (own := "ObjectFile$Reader") pn_RE rfl (Nat.le_of_ble_eq_true rfl) ?_
  intro p e s m below meth c X hK hr hlk
  have r_158 : ∀ (s0 : Int32) (s1 : Int32) (M : gMem), wj_RE_startsFault_158 post s0 s1 M → GMx D ta base p l e 1 23 s m [.ref (base + 39)] below meth c (gPi post) 8 158 [(0, .ref (base + 39))] [.int s0, .int s1] M := by
    intro s0 s1 M h
    unfold wj_RE_startsFault_158 at h
    refine g_icmp_eq X dRE_startsFault_158 (fun c => ?_) (fun c => ?_)
    · have h := h.1 c
      refine g_iconst X (v := (0 : Int32)) dRE_startsFault_175 (by decide) ?_
      exact g_iret X hr hlk dRE_startsFault_176 ⟨_, rfl, h⟩
    · have h := h.2 c
      refine g_aload_n X dRE_startsFault_161 rfl 0 rfl ?_
      refine g_getr X hK.1 fw_RE_15 ly_39 rfl dRE_startsFault_162 ?_
      refine g_bipush X (v := (34 : Int32)) dRE_startsFault_165 (by decide) ?_
      refine g_bipush X (v := (36 : Int32)) dRE_startsFault_167 (by decide) ?_
      refine g_callVN X hK gTs_ok ly_32 rfl mw_FI_tell nw_786 mi_FI_tell ms_FI_tell (As := [.int (34 : Int32), .int (36 : Int32)]) rfl ⟨(Nat.le_of_ble_eq_true rfl), (Nat.le_of_ble_eq_true rfl), Nat.le_refl _, Nat.le_refl _⟩ (m_FI_tell h) (rest := []) rfl (Nat.le_of_ble_eq_true rfl) dRE_startsFault_169 (gk_i (fun r6 M7 h => ?_))
      refine g_goto X dRE_startsFault_172 ?_
      exact g_iret X hr hlk dRE_startsFault_176 ⟨_, rfl, h⟩
  have r_41 : ∀ (n : Nat) (v1 : Int32) (v3 : Int32) (v4 : Int32) (v5 : Int32) (v6 : Int32) (M : gMem), wl_RE_startsFault_41 post n v1 v3 v4 v5 v6 M → GMx D ta base p l e 1 23 s m [.ref (base + 39)] below meth c (gPi post) 8 41 [(0, .ref (base + 39)), (1, .int v1), (3, .int v3), (4, .int v4), (5, .int v5), (6, .int v6)] [] M := by
    intro n
    induction n with
    | zero => exact fun _ _ _ _ _ M h => h.elim
    | succ n ih =>
      intro v1 v3 v4 v5 v6 M h
      refine g_iload X dRE_startsFault_41 5 rfl ?_
      refine g_iload_n X dRE_startsFault_43 rfl 2 rfl ?_
      refine g_icmp_ge X dRE_startsFault_44 (fun c => ?_) (fun c => ?_)
      · have h := h.1 c
        refine g_iload X dRE_startsFault_137 4 rfl ?_
        refine g_aload_n X dRE_startsFault_139 rfl 0 rfl ?_
        refine g_getr X hK.1 fw_RE_9 ly_39 rfl dRE_startsFault_140 ?_
        refine g_bipush X (v := (36 : Int32)) dRE_startsFault_143 (by decide) ?_
        refine g_callVN X hK gTs_ok ly_17 rfl mw_FB_u4 nw_799 mi_FB_u4 ms_FB_u4 (As := [.int (36 : Int32)]) rfl ⟨(Nat.le_of_ble_eq_true rfl), (Nat.le_of_ble_eq_true rfl), Nat.le_refl _, Nat.le_refl _⟩ (m_FB_u4 h) (rest := [.int v5]) rfl (Nat.le_of_ble_eq_true rfl) dRE_startsFault_145 (gk_l (fun r4 M5 h => ?_))
        refine g_lconst X (v := (1 : Int64)) dRE_startsFault_148 (by decide) ?_
        refine g_lif_ne X dRE_startsFault_149 dRE_startsFault_150 (fun c => ?_) (fun c => ?_)
        · have h := h.1 c
          refine g_iconst X (v := (0 : Int32)) dRE_startsFault_157 (by decide) ?_
          refine g_sub (L' := [(0, .ref (base + 39))]) [0] rfl ?_
          exact r_158 (0 : Int32) v5 M5 h
        · have h := h.2 c
          refine g_iconst X (v := (1 : Int32)) dRE_startsFault_153 (by decide) ?_
          refine g_goto X dRE_startsFault_154 ?_
          refine g_sub (L' := [(0, .ref (base + 39))]) [0] rfl ?_
          exact r_158 (1 : Int32) v5 M5 h
      · have h := h.2 c
        refine g_aload_n X dRE_startsFault_47 rfl 0 rfl ?_
        refine g_getr X hK.1 fw_RE_9 ly_39 rfl dRE_startsFault_48 ?_
        refine g_iload X dRE_startsFault_51 5 rfl ?_
        refine g_callVN X hK gTs_ok ly_17 rfl mw_FB_u2 nw_818 mi_FB_u2 ms_FB_u2 (As := [.int v6]) rfl ⟨(Nat.le_of_ble_eq_true rfl), (Nat.le_of_ble_eq_true rfl), Nat.le_refl _, Nat.le_refl _⟩ (m_FB_u2 h) (rest := []) rfl (Nat.le_of_ble_eq_true rfl) dRE_startsFault_53 (gk_i (fun r8 M9 h => ?_))
        refine g_istore X (L' := [(7, .int r8), (0, .ref (base + 39)), (1, .int v1), (3, .int v3), (4, .int v4), (5, .int v5), (6, .int v6)]) dRE_startsFault_56 (Nat.le_of_ble_eq_true rfl) rfl ?_
        refine g_iload X dRE_startsFault_58 0 rfl ?_
        refine g_iconst X (v := (2 : Int32)) dRE_startsFault_60 (by decide) ?_
        refine g_irem X dRE_startsFault_61 (by decide) ?_
        refine g_if_ne X dRE_startsFault_62 (fun c => ?_) (fun c => ?_)
        · have h := h.1 c
          refine g_aload_n X dRE_startsFault_86 rfl 1 rfl ?_
          refine g_getr X hK.1 fw_RE_15 ly_39 rfl dRE_startsFault_87 ?_
          refine g_bipush X (v := (33 : Int32)) dRE_startsFault_90 (by decide) ?_
          refine g_iload X dRE_startsFault_92 6 rfl ?_
          refine g_callVN X hK gTs_ok ly_32 rfl mw_FI_tell nw_786 mi_FI_tell ms_FI_tell (As := [.int (33 : Int32), .int v6]) rfl ⟨(Nat.le_of_ble_eq_true rfl), (Nat.le_of_ble_eq_true rfl), Nat.le_refl _, Nat.le_refl _⟩ (m_FI_tell h) (rest := []) rfl (Nat.le_of_ble_eq_true rfl) dRE_startsFault_94 (gk_i (fun r10 M11 h => ?_))
          exact g_iret X hr hlk dRE_startsFault_97 ⟨_, rfl, h⟩
        · have h := h.2 c
          refine g_iload X dRE_startsFault_65 0 rfl ?_
          refine g_iload X dRE_startsFault_67 4 rfl ?_
          refine g_icmp_le X dRE_startsFault_69 (fun c => ?_) (fun c => ?_)
          · have h := h.1 c
            refine g_aload_n X dRE_startsFault_86 rfl 1 rfl ?_
            refine g_getr X hK.1 fw_RE_15 ly_39 rfl dRE_startsFault_87 ?_
            refine g_bipush X (v := (33 : Int32)) dRE_startsFault_90 (by decide) ?_
            refine g_iload X dRE_startsFault_92 6 rfl ?_
            refine g_callVN X hK gTs_ok ly_32 rfl mw_FI_tell nw_786 mi_FI_tell ms_FI_tell (As := [.int (33 : Int32), .int v6]) rfl ⟨(Nat.le_of_ble_eq_true rfl), (Nat.le_of_ble_eq_true rfl), Nat.le_refl _, Nat.le_refl _⟩ (m_FI_tell h) (rest := []) rfl (Nat.le_of_ble_eq_true rfl) dRE_startsFault_94 (gk_i (fun r12 M13 h => ?_))
            exact g_iret X hr hlk dRE_startsFault_97 ⟨_, rfl, h⟩
          · have h := h.2 c
            refine g_iload X dRE_startsFault_72 0 rfl ?_
            refine g_aload_n X dRE_startsFault_74 rfl 1 rfl ?_
            refine g_getr X hK.1 fw_RE_19 ly_39 rfl dRE_startsFault_75 ?_
            refine g_getrN X hK.1 (gNw_of hK) fw_RE_33 ly_33 rfl dRE_startsFault_78 ?_
            refine g_iconst X (v := (0 : Int32)) dRE_startsFault_81 (by decide) ?_
            obtain ⟨hi, h⟩ := h
            refine g_iald X hK.1 ly_37 hi dRE_startsFault_82 ?_
            refine g_icmp_lt X dRE_startsFault_83 (fun c => ?_) (fun c => ?_)
            · have h := h.1 c
              refine g_iload X dRE_startsFault_98 0 rfl ?_
              refine g_istore X (L' := [(4, .int r8), (7, .int r8), (0, .ref (base + 39)), (1, .int v1), (3, .int v3), (5, .int v5), (6, .int v6)]) dRE_startsFault_100 (Nat.le_of_ble_eq_true rfl) rfl ?_
              refine g_iload X dRE_startsFault_102 5 rfl ?_
              refine g_if_ne X dRE_startsFault_104 (fun c => ?_) (fun c => ?_)
              · have h := h.1 c
                refine g_iconst X (v := (1 : Int32)) dRE_startsFault_124 (by decide) ?_
                refine g_goto X dRE_startsFault_125 ?_
                refine g_istore X (L' := [(5, .int (1 : Int32)), (4, .int r8), (7, .int r8), (0, .ref (base + 39)), (1, .int v1), (3, .int v3), (6, .int v6)]) dRE_startsFault_129 (Nat.le_of_ble_eq_true rfl) rfl ?_
                obtain ⟨x14, ex14⟩ : ∃ z : Int32, z = v6 + (2 : Int32) := ⟨_, rfl⟩
                have h := h x14 ex14
                refine g_iinc X (L' := [(6, .int x14), (5, .int (1 : Int32)), (4, .int r8), (7, .int r8), (0, .ref (base + 39)), (1, .int v1), (3, .int v3)]) (k := 6) dRE_startsFault_131 rfl (v := x14) (by rw [ex14]; rfl) (Nat.le_of_ble_eq_true rfl) rfl ?_
                refine g_goto X dRE_startsFault_134 ?_
                refine g_sub (L' := [(0, .ref (base + 39)), (1, .int v1), (3, .int v3), (4, .int r8), (5, .int (1 : Int32)), (6, .int x14)]) [4, 5, 6, 2, 1, 0] rfl ?_
                exact ih v1 v3 r8 (1 : Int32) x14 M9 h
              · have h := h.2 c
                refine g_aload_n X dRE_startsFault_107 rfl 2 rfl ?_
                refine g_getr X hK.1 fw_RE_9 ly_39 rfl dRE_startsFault_108 ?_
                refine g_iload_n X dRE_startsFault_111 rfl 3 rfl ?_
                refine g_iload X dRE_startsFault_112 1 rfl ?_
                refine g_iadd X dRE_startsFault_114 ?_
                refine g_callVN X hK gTs_ok ly_17 rfl mw_FB_u1 nw_785 mi_FB_u1 ms_FB_u1 (As := [.int (v1 + r8)]) rfl ⟨(Nat.le_of_ble_eq_true rfl), (Nat.le_of_ble_eq_true rfl), Nat.le_refl _, Nat.le_refl _⟩ (m_FB_u1 h) (rest := []) rfl (Nat.le_of_ble_eq_true rfl) dRE_startsFault_115 (gk_i (fun r15 M16 h => ?_))
                refine g_callSN X hK gTs_ok mw_OF_isShort nw_858 mt_OF_isShort (As := [.int r15]) rfl ⟨(Nat.le_of_ble_eq_true rfl), (Nat.le_of_ble_eq_true rfl), Nat.le_refl _, Nat.le_refl _⟩ (m_OF_isShort h) (rest := []) rfl (Nat.le_of_ble_eq_true rfl) dRE_startsFault_118 (gk_z (fun r17 M18 h => ?_))
                refine g_if_eq X dRE_startsFault_121 (fun c => ?_) (fun c => ?_)
                · have h := h.1 c
                  refine g_iconst X (v := (0 : Int32)) dRE_startsFault_128 (by decide) ?_
                  refine g_istore X (L' := [(5, .int (0 : Int32)), (4, .int r8), (7, .int r8), (0, .ref (base + 39)), (1, .int v1), (3, .int v3), (6, .int v6)]) dRE_startsFault_129 (Nat.le_of_ble_eq_true rfl) rfl ?_
                  obtain ⟨x19, ex19⟩ : ∃ z : Int32, z = v6 + (2 : Int32) := ⟨_, rfl⟩
                  have h := h x19 ex19
                  refine g_iinc X (L' := [(6, .int x19), (5, .int (0 : Int32)), (4, .int r8), (7, .int r8), (0, .ref (base + 39)), (1, .int v1), (3, .int v3)]) (k := 6) dRE_startsFault_131 rfl (v := x19) (by rw [ex19]; rfl) (Nat.le_of_ble_eq_true rfl) rfl ?_
                  refine g_goto X dRE_startsFault_134 ?_
                  refine g_sub (L' := [(0, .ref (base + 39)), (1, .int v1), (3, .int v3), (4, .int r8), (5, .int (0 : Int32)), (6, .int x19)]) [4, 5, 6, 2, 1, 0] rfl ?_
                  exact ih v1 v3 r8 (0 : Int32) x19 M18 h
                · have h := h.2 c
                  refine g_iconst X (v := (1 : Int32)) dRE_startsFault_124 (by decide) ?_
                  refine g_goto X dRE_startsFault_125 ?_
                  refine g_istore X (L' := [(5, .int (1 : Int32)), (4, .int r8), (7, .int r8), (0, .ref (base + 39)), (1, .int v1), (3, .int v3), (6, .int v6)]) dRE_startsFault_129 (Nat.le_of_ble_eq_true rfl) rfl ?_
                  obtain ⟨x20, ex20⟩ : ∃ z : Int32, z = v6 + (2 : Int32) := ⟨_, rfl⟩
                  have h := h x20 ex20
                  refine g_iinc X (L' := [(6, .int x20), (5, .int (1 : Int32)), (4, .int r8), (7, .int r8), (0, .ref (base + 39)), (1, .int v1), (3, .int v3)]) (k := 6) dRE_startsFault_131 rfl (v := x20) (by rw [ex20]; rfl) (Nat.le_of_ble_eq_true rfl) rfl ?_
                  refine g_goto X dRE_startsFault_134 ?_
                  refine g_sub (L' := [(0, .ref (base + 39)), (1, .int v1), (3, .int v3), (4, .int r8), (5, .int (1 : Int32)), (6, .int x20)]) [4, 5, 6, 2, 1, 0] rfl ?_
                  exact ih v1 v3 r8 (1 : Int32) x20 M18 h
            · have h := h.2 c
              refine g_aload_n X dRE_startsFault_86 rfl 1 rfl ?_
              refine g_getr X hK.1 fw_RE_15 ly_39 rfl dRE_startsFault_87 ?_
              refine g_bipush X (v := (33 : Int32)) dRE_startsFault_90 (by decide) ?_
              refine g_iload X dRE_startsFault_92 6 rfl ?_
              refine g_callVN X hK gTs_ok ly_32 rfl mw_FI_tell nw_786 mi_FI_tell ms_FI_tell (As := [.int (33 : Int32), .int v6]) rfl ⟨(Nat.le_of_ble_eq_true rfl), (Nat.le_of_ble_eq_true rfl), Nat.le_refl _, Nat.le_refl _⟩ (m_FI_tell h) (rest := []) rfl (Nat.le_of_ble_eq_true rfl) dRE_startsFault_94 (gk_i (fun r21 M22 h => ?_))
              exact g_iret X hr hlk dRE_startsFault_97 ⟨_, rfl, h⟩
  refine g_args (L' := [(0, .ref (base + 39))]) rfl ?_
  unfold wp_RE_startsFault at h
  refine g_aload_n X dRE_startsFault_0 rfl 0 rfl ?_
  refine g_getr X hK.1 fw_RE_19 ly_39 rfl dRE_startsFault_1 ?_
  refine g_getrN X hK.1 (gNw_of hK) fw_RE_39 ly_33 rfl dRE_startsFault_4 ?_
  refine g_iconst X (v := (0 : Int32)) dRE_startsFault_7 (by decide) ?_
  obtain ⟨hi, h⟩ := h
  refine g_iald X hK.1 ly_36 hi dRE_startsFault_8 ?_
  refine g_topi (fun x1 ex1 => ?_)
  have h := h x1 ex1
  refine g_istore_n X (L' := [(1, .int x1), (0, .ref (base + 39))]) dRE_startsFault_9 rfl (Nat.le_of_ble_eq_true rfl) rfl ?_
  refine g_aload_n X dRE_startsFault_10 rfl 1 rfl ?_
  refine g_getr X hK.1 fw_RE_19 ly_39 rfl dRE_startsFault_11 ?_
  refine g_getrN X hK.1 (gNw_of hK) fw_RE_39 ly_33 rfl dRE_startsFault_14 ?_
  refine g_iconst X (v := (4 : Int32)) dRE_startsFault_17 (by decide) ?_
  obtain ⟨hi, h⟩ := h
  refine g_iald X hK.1 ly_36 hi dRE_startsFault_18 ?_
  refine g_topi (fun x2 ex2 => ?_)
  have h := h x2 ex2
  refine g_istore_n X (L' := [(2, .int x2), (1, .int x1), (0, .ref (base + 39))]) dRE_startsFault_19 rfl (Nat.le_of_ble_eq_true rfl) rfl ?_
  refine g_iload_n X dRE_startsFault_20 rfl 0 rfl ?_
  refine g_aload_n X dRE_startsFault_21 rfl 2 rfl ?_
  refine g_getr X hK.1 fw_RE_19 ly_39 rfl dRE_startsFault_22 ?_
  refine g_getrN X hK.1 (gNw_of hK) fw_RE_33 ly_33 rfl dRE_startsFault_25 ?_
  refine g_iconst X (v := (4 : Int32)) dRE_startsFault_28 (by decide) ?_
  obtain ⟨hi, h⟩ := h
  refine g_iald X hK.1 ly_37 hi dRE_startsFault_29 ?_
  refine g_iadd X dRE_startsFault_30 ?_
  refine g_topi (fun x3 ex3 => ?_)
  have h := h x3 ex3
  refine g_istore_n X (L' := [(3, .int x3), (2, .int x2), (1, .int x1), (0, .ref (base + 39))]) dRE_startsFault_31 rfl (Nat.le_of_ble_eq_true rfl) rfl ?_
  refine g_iconst X (v := (-1 : Int32)) dRE_startsFault_32 (by decide) ?_
  refine g_istore X (L' := [(4, .int (-1 : Int32)), (3, .int x3), (2, .int x2), (1, .int x1), (0, .ref (base + 39))]) dRE_startsFault_33 (Nat.le_of_ble_eq_true rfl) rfl ?_
  refine g_iconst X (v := (0 : Int32)) dRE_startsFault_35 (by decide) ?_
  refine g_istore X (L' := [(5, .int (0 : Int32)), (4, .int (-1 : Int32)), (3, .int x3), (2, .int x2), (1, .int x1), (0, .ref (base + 39))]) dRE_startsFault_36 (Nat.le_of_ble_eq_true rfl) rfl ?_
  refine g_iload_n X dRE_startsFault_38 rfl 3 rfl ?_
  refine g_istore X (L' := [(6, .int x2), (5, .int (0 : Int32)), (4, .int (-1 : Int32)), (3, .int x3), (2, .int x2), (1, .int x1), (0, .ref (base + 39))]) dRE_startsFault_39 (Nat.le_of_ble_eq_true rfl) rfl ?_
  refine g_sub (L' := [(0, .ref (base + 39)), (1, .int x1), (3, .int x3), (4, .int (-1 : Int32)), (5, .int (0 : Int32)), (6, .int x2)]) [6, 5, 3, 2, 1, 0] rfl ?_
  obtain ⟨n9, h⟩ := h
  exact r_41 n9 x1 x3 (-1 : Int32) (0 : Int32) x2 M h
set_option maxRecDepth 100000 in
set_option maxHeartbeats 4000000 in
theorem m_RE_firstFault {l : Launch} {D : va_G} {ta : Nat → ClassId} {base : Nat} {sa : Nat → Nat} {post : Int32 → gMem → Prop} {M : gMem} (h : wp_RE_firstFault post M) : GC gLay gCl D ta base gNw sa gTabs gTs l y_RE_firstFault b_RE_firstFault 2 (some .int) 5 118 [.ref (base + 39)] M (gPi post) := by
  refine GC.of (own := "ObjectFile$Reader") pn_RE rfl (Nat.le_of_ble_eq_true rfl) ?_
  intro p e s m below meth c X hK hr hlk
  have r_17 : ∀ (s0 : Int32) (M : gMem), wj_RE_firstFault_17 post s0 M → GMx D ta base p l e 5 118 s m [.ref (base + 39)] below meth c (gPi post) 2 17 [(0, .ref (base + 39))] [.int s0] M := by
    intro s0 M h
    unfold wj_RE_firstFault_17 at h
    refine g_istore_n X (L' := [(1, .int s0), (0, .ref (base + 39))]) dRE_firstFault_17 rfl (Nat.le_of_ble_eq_true rfl) rfl ?_
    refine g_iload_n X dRE_firstFault_18 rfl 0 rfl ?_
    refine g_if_eq X dRE_firstFault_19 (fun c => ?_) (fun c => ?_)
    · have h := h.1 c
      refine g_aload_n X dRE_firstFault_26 rfl 1 rfl ?_
      refine g_callV X hK gTs_ok ly_39 rfl mw_RE_startsFault tw_854 mi_RE_startsFault ms_RE_startsFault (As := []) rfl ⟨(Nat.le_of_ble_eq_true rfl), (Nat.le_of_ble_eq_true rfl), Nat.le_refl _, Nat.le_refl _⟩ (m_RE_startsFault h) (rest := []) rfl (Nat.le_of_ble_eq_true rfl) dRE_firstFault_27 (gk_i (fun r5 M6 h => ?_))
      exact g_iret X hr hlk dRE_firstFault_30 ⟨_, rfl, h⟩
    · have h := h.2 c
      refine g_iload_n X dRE_firstFault_22 rfl 0 rfl ?_
      refine g_goto X dRE_firstFault_23 ?_
      exact g_iret X hr hlk dRE_firstFault_30 ⟨_, rfl, h⟩
  refine g_args (L' := [(0, .ref (base + 39))]) rfl ?_
  unfold wp_RE_firstFault at h
  refine g_aload_n X dRE_firstFault_0 rfl 0 rfl ?_
  refine g_callV X hK gTs_ok ly_39 rfl mw_RE_symbolsFault tw_781 mi_RE_symbolsFault ms_RE_symbolsFault (As := []) rfl ⟨(Nat.le_of_ble_eq_true rfl), (Nat.le_of_ble_eq_true rfl), Nat.le_refl _, Nat.le_refl _⟩ (m_RE_symbolsFault h) (rest := []) rfl (Nat.le_of_ble_eq_true rfl) dRE_firstFault_1 (gk_i (fun r1 M2 h => ?_))
  refine g_istore_n X (L' := [(1, .int r1), (0, .ref (base + 39))]) dRE_firstFault_4 rfl (Nat.le_of_ble_eq_true rfl) rfl ?_
  refine g_iload_n X dRE_firstFault_5 rfl 0 rfl ?_
  refine g_if_eq X dRE_firstFault_6 (fun c => ?_) (fun c => ?_)
  · have h := h.1 c
    refine g_aload_n X dRE_firstFault_13 rfl 1 rfl ?_
    refine g_callV X hK gTs_ok ly_39 rfl mw_RE_relocationsFault tw_838 mi_RE_relocationsFault ms_RE_relocationsFault (As := []) rfl ⟨(Nat.le_of_ble_eq_true rfl), (Nat.le_of_ble_eq_true rfl), Nat.le_refl _, Nat.le_refl _⟩ (m_RE_relocationsFault h) (rest := []) rfl (Nat.le_of_ble_eq_true rfl) dRE_firstFault_14 (gk_i (fun r3 M4 h => ?_))
    refine g_sub (L' := [(0, .ref (base + 39))]) [1] rfl ?_
    exact r_17 r3 M4 h
  · have h := h.2 c
    refine g_iload_n X dRE_firstFault_9 rfl 0 rfl ?_
    refine g_goto X dRE_firstFault_10 ?_
    refine g_sub (L' := [(0, .ref (base + 39))]) [1] rfl ?_
    exact r_17 r1 M2 h
set_option maxRecDepth 100000 in
set_option maxHeartbeats 4000000 in
theorem m_OF_read {l : Launch} {D : va_G} {ta : Nat → ClassId} {base : Nat} {sa : Nat → Nat} {post : Int32 → gMem → Prop} {M : gMem} (h : wp_OF_read post M) : GC gLay gCl D ta base gNw sa gTabs gTs l y_OF_read b_OF_read 2 (some .int) 8 177 [.ref (base + 0)] M (gPi post) := by
  refine GC.of (own := "ObjectFile") pn_OF rfl (Nat.le_of_ble_eq_true rfl) ?_
  intro p e s m below meth c X hK hr hlk
  have r_28 : ∀ (v1 : Int32) (M : gMem), wj_OF_read_28 post v1 M → GMx D ta base p l e 8 177 s m [.ref (base + 0)] below meth c (gPi post) 2 28 [(0, .ref (base + 0)), (1, .int v1)] [] M := by
    intro v1 M h
    unfold wj_OF_read_28 at h
    refine g_iload_n X dOF_read_28 rfl 1 rfl ?_
    refine g_if_ne X dOF_read_29 (fun c => ?_) (fun c => ?_)
    · have h := h.1 c
      refine g_iload_n X dOF_read_43 rfl 1 rfl ?_
      exact g_iret X hr hlk dOF_read_44 ⟨_, rfl, h⟩
    · have h := h.2 c
      refine g_aload_n X dOF_read_32 rfl 0 rfl ?_
      refine g_getr X hK.1 fw_OF_56 ly_0 rfl dOF_read_33 ?_
      refine g_aload_n X dOF_read_36 rfl 0 rfl ?_
      refine g_getr X hK.1 fw_OF_16 ly_0 rfl dOF_read_37 ?_
      refine g_callVN X hK gTs_ok ly_39 rfl mw_RE_fill nw_859 mi_RE_fill ms_RE_fill (As := [.ref (base + 9)]) rfl ⟨(Nat.le_of_ble_eq_true rfl), (Nat.le_of_ble_eq_true rfl), Nat.le_refl _, Nat.le_refl _⟩ (m_RE_fill_9 h) (rest := []) rfl (Nat.le_of_ble_eq_true rfl) dOF_read_40 (gk_v (fun M5 h => ?_))
      refine g_iload_n X dOF_read_43 rfl 1 rfl ?_
      exact g_iret X hr hlk dOF_read_44 ⟨_, rfl, h⟩
  refine g_args (L' := [(0, .ref (base + 0))]) rfl ?_
  unfold wp_OF_read at h
  refine g_aload_n X dOF_read_0 rfl 0 rfl ?_
  refine g_getr X hK.1 fw_OF_38 ly_0 rfl dOF_read_1 ?_
  refine g_iconst X (v := (-1 : Int32)) dOF_read_4 (by decide) ?_
  refine g_putiN X hK.1 (gNw_of hK) fw_OF_151 pw_FI_0 ly_32 rfl dOF_read_5 ?_
  refine g_topM (fun M1 eM1 => ?_)
  have h := h M1 eM1
  refine g_aload_n X dOF_read_8 rfl 0 rfl ?_
  refine g_getr X hK.1 fw_OF_47 ly_0 rfl dOF_read_9 ?_
  refine g_callVN X hK gTs_ok ly_33 rfl mw_DI_firstFault nw_656 mi_DI_firstFault ms_DI_firstFault (As := []) rfl ⟨(Nat.le_of_ble_eq_true rfl), (Nat.le_of_ble_eq_true rfl), Nat.le_refl _, Nat.le_refl _⟩ (m_DI_firstFault h) (rest := []) rfl (Nat.le_of_ble_eq_true rfl) dOF_read_12 (gk_i (fun r2 M3 h => ?_))
  refine g_istore_n X (L' := [(1, .int r2), (0, .ref (base + 0))]) dOF_read_15 rfl (Nat.le_of_ble_eq_true rfl) rfl ?_
  refine g_iload_n X dOF_read_16 rfl 0 rfl ?_
  refine g_if_ne X dOF_read_17 (fun c => ?_) (fun c => ?_)
  · have h := h.1 c
    refine g_sub (L' := [(0, .ref (base + 0)), (1, .int r2)]) [1, 0] rfl ?_
    exact r_28 r2 M3 h
  · have h := h.2 c
    refine g_aload_n X dOF_read_20 rfl 1 rfl ?_
    refine g_getr X hK.1 fw_OF_56 ly_0 rfl dOF_read_21 ?_
    refine g_callVN X hK gTs_ok ly_39 rfl mw_RE_firstFault nw_777 mi_RE_firstFault ms_RE_firstFault (As := []) rfl ⟨(Nat.le_of_ble_eq_true rfl), (Nat.le_of_ble_eq_true rfl), Nat.le_refl _, Nat.le_refl _⟩ (m_RE_firstFault h) (rest := []) rfl (Nat.le_of_ble_eq_true rfl) dOF_read_24 (gk_i (fun r6 M7 h => ?_))
    refine g_istore_n X (L' := [(1, .int r6), (0, .ref (base + 0))]) dOF_read_27 rfl (Nat.le_of_ble_eq_true rfl) rfl ?_
    refine g_sub (L' := [(0, .ref (base + 0)), (1, .int r6)]) [1, 0] rfl ?_
    exact r_28 r6 M7 h
set_option maxRecDepth 100000 in
set_option maxHeartbeats 4000000 in
theorem m_OF_place {l : Launch} {D : va_G} {ta : Nat → ClassId} {base : Nat} {sa : Nat → Nat} {post : Int32 → gMem → Prop} {M : gMem} (h : wp_OF_place post M) : GC gLay gCl D ta base gNw sa gTabs gTs l y_OF_place b_OF_place 1 (some .int) 0 0 [.ref (base + 0)] M (gPi post) := by
  refine GC.of (own := "ObjectFile") pn_OF rfl (Nat.le_of_ble_eq_true rfl) ?_
  intro p e s m below meth c X hK hr hlk
  refine g_args (L' := [(0, .ref (base + 0))]) rfl ?_
  unfold wp_OF_place at h
  refine g_aload_n X dOF_place_0 rfl 0 rfl ?_
  refine g_getr X hK.1 fw_OF_38 ly_0 rfl dOF_place_1 ?_
  refine g_getiN X hK.1 (gNw_of hK) fw_OF_151 ly_32 rfl dOF_place_4 ?_
  exact g_iret X hr hlk dOF_place_7 ⟨_, rfl, h⟩
set_option maxRecDepth 100000 in
set_option maxHeartbeats 4000000 in
theorem m_CT_copyAll_m_9 {l : Launch} {D : va_G} {ta : Nat → ClassId} {base : Nat} {sa : Nat → Nat} {post : gMem → Prop} {M : gMem} (h : wp_CT_copyAll_m_9 post M) : GC gLay gCl D ta base gNw sa gTabs gTs l y_CT_copyAll b_CT_copyAll 2 none 1 18 [.ref (base + 1), .ref (base + 9)] M (gPv post) := by
  refine GC.of (own := "ObjectFile$Contents") pn_CT rfl (Nat.le_of_ble_eq_true rfl) ?_
  intro p e s m below meth c X hK hr hlk
  refine g_args (L' := [(0, .ref (base + 1)), (1, .ref (base + 9))]) rfl ?_
  unfold wp_CT_copyAll_m_9 at h
  refine g_aload_n X dCT_copyAll_0 rfl 1 rfl ?_
  refine g_getr X hK.1 fw_CT_9 ly_9 rfl dCT_copyAll_1 ?_
  refine g_iconst X (v := (0 : Int32)) dCT_copyAll_4 (by decide) ?_
  refine g_aload_n X dCT_copyAll_5 rfl 0 rfl ?_
  refine g_getr X hK.1 fw_CT_9 ly_1 rfl dCT_copyAll_6 ?_
  refine g_iconst X (v := (0 : Int32)) dCT_copyAll_9 (by decide) ?_
  refine g_aload_n X dCT_copyAll_10 rfl 0 rfl ?_
  refine g_getr X hK.1 fw_CT_9 ly_1 rfl dCT_copyAll_11 ?_
  refine g_alen X hK.1 ly_2 (by decide) (v := (6144 : Int32)) (by decide) dCT_copyAll_14 ?_
  obtain ⟨q1, q2, q3, q4, q5, q6, h⟩ := h
  refine g_copyb X hK.1 tw_349 tw_351 tw_350 tw_11 ly_10 ly_2 q1 q2 q3 q4 q5 q6 (Nat.le_of_ble_eq_true rfl) (Nat.le_of_ble_eq_true rfl) dCT_copyAll_15 ?_
  refine g_topM (fun M1 eM1 => ?_)
  have h := h M1 eM1
  refine g_aload_n X dCT_copyAll_18 rfl 1 rfl ?_
  refine g_getr X hK.1 fw_CT_15 ly_9 rfl dCT_copyAll_19 ?_
  refine g_iconst X (v := (0 : Int32)) dCT_copyAll_22 (by decide) ?_
  refine g_aload_n X dCT_copyAll_23 rfl 0 rfl ?_
  refine g_getr X hK.1 fw_CT_15 ly_1 rfl dCT_copyAll_24 ?_
  refine g_iconst X (v := (0 : Int32)) dCT_copyAll_27 (by decide) ?_
  refine g_aload_n X dCT_copyAll_28 rfl 0 rfl ?_
  refine g_getr X hK.1 fw_CT_15 ly_1 rfl dCT_copyAll_29 ?_
  refine g_alen X hK.1 ly_3 (by decide) (v := (4 : Int32)) (by decide) dCT_copyAll_32 ?_
  obtain ⟨q1, q2, q3, q4, q5, h⟩ := h
  refine g_copyi X hK.1 tw_349 tw_351 tw_350 tw_11 ly_11 ly_3 q1 q2 q3 q4 q5 (Nat.le_of_ble_eq_true rfl) (Nat.le_of_ble_eq_true rfl) dCT_copyAll_33 ?_
  refine g_topM (fun M2 eM2 => ?_)
  have h := h M2 eM2
  refine g_aload_n X dCT_copyAll_36 rfl 1 rfl ?_
  refine g_getr X hK.1 fw_CT_19 ly_9 rfl dCT_copyAll_37 ?_
  refine g_iconst X (v := (0 : Int32)) dCT_copyAll_40 (by decide) ?_
  refine g_aload_n X dCT_copyAll_41 rfl 0 rfl ?_
  refine g_getr X hK.1 fw_CT_19 ly_1 rfl dCT_copyAll_42 ?_
  refine g_iconst X (v := (0 : Int32)) dCT_copyAll_45 (by decide) ?_
  refine g_aload_n X dCT_copyAll_46 rfl 0 rfl ?_
  refine g_getr X hK.1 fw_CT_19 ly_1 rfl dCT_copyAll_47 ?_
  refine g_alen X hK.1 ly_4 (by decide) (v := (4 : Int32)) (by decide) dCT_copyAll_50 ?_
  obtain ⟨q1, q2, q3, q4, q5, h⟩ := h
  refine g_copyi X hK.1 tw_349 tw_351 tw_350 tw_11 ly_12 ly_4 q1 q2 q3 q4 q5 (Nat.le_of_ble_eq_true rfl) (Nat.le_of_ble_eq_true rfl) dCT_copyAll_51 ?_
  refine g_topM (fun M3 eM3 => ?_)
  have h := h M3 eM3
  refine g_aload_n X dCT_copyAll_54 rfl 1 rfl ?_
  refine g_getr X hK.1 fw_CT_22 ly_9 rfl dCT_copyAll_55 ?_
  refine g_iconst X (v := (0 : Int32)) dCT_copyAll_58 (by decide) ?_
  refine g_aload_n X dCT_copyAll_59 rfl 0 rfl ?_
  refine g_getr X hK.1 fw_CT_22 ly_1 rfl dCT_copyAll_60 ?_
  refine g_iconst X (v := (0 : Int32)) dCT_copyAll_63 (by decide) ?_
  refine g_aload_n X dCT_copyAll_64 rfl 0 rfl ?_
  refine g_getr X hK.1 fw_CT_22 ly_1 rfl dCT_copyAll_65 ?_
  refine g_alen X hK.1 ly_5 (by decide) (v := (1024 : Int32)) (by decide) dCT_copyAll_68 ?_
  obtain ⟨q1, q2, q3, q4, q5, h⟩ := h
  refine g_copyi X hK.1 tw_349 tw_351 tw_350 tw_11 ly_13 ly_5 q1 q2 q3 q4 q5 (Nat.le_of_ble_eq_true rfl) (Nat.le_of_ble_eq_true rfl) dCT_copyAll_69 ?_
  refine g_topM (fun M4 eM4 => ?_)
  have h := h M4 eM4
  refine g_aload_n X dCT_copyAll_72 rfl 1 rfl ?_
  refine g_getr X hK.1 fw_CT_25 ly_9 rfl dCT_copyAll_73 ?_
  refine g_iconst X (v := (0 : Int32)) dCT_copyAll_76 (by decide) ?_
  refine g_aload_n X dCT_copyAll_77 rfl 0 rfl ?_
  refine g_getr X hK.1 fw_CT_25 ly_1 rfl dCT_copyAll_78 ?_
  refine g_iconst X (v := (0 : Int32)) dCT_copyAll_81 (by decide) ?_
  refine g_aload_n X dCT_copyAll_82 rfl 0 rfl ?_
  refine g_getr X hK.1 fw_CT_25 ly_1 rfl dCT_copyAll_83 ?_
  refine g_alen X hK.1 ly_6 (by decide) (v := (600 : Int32)) (by decide) dCT_copyAll_86 ?_
  obtain ⟨q1, q2, q3, q4, q5, h⟩ := h
  refine g_copyi X hK.1 tw_349 tw_351 tw_350 tw_11 ly_14 ly_6 q1 q2 q3 q4 q5 (Nat.le_of_ble_eq_true rfl) (Nat.le_of_ble_eq_true rfl) dCT_copyAll_87 ?_
  refine g_topM (fun M5 eM5 => ?_)
  have h := h M5 eM5
  refine g_aload_n X dCT_copyAll_90 rfl 1 rfl ?_
  refine g_getr X hK.1 fw_CT_28 ly_9 rfl dCT_copyAll_91 ?_
  refine g_iconst X (v := (0 : Int32)) dCT_copyAll_94 (by decide) ?_
  refine g_aload_n X dCT_copyAll_95 rfl 0 rfl ?_
  refine g_getr X hK.1 fw_CT_28 ly_1 rfl dCT_copyAll_96 ?_
  refine g_iconst X (v := (0 : Int32)) dCT_copyAll_99 (by decide) ?_
  refine g_aload_n X dCT_copyAll_100 rfl 0 rfl ?_
  refine g_getr X hK.1 fw_CT_28 ly_1 rfl dCT_copyAll_101 ?_
  refine g_alen X hK.1 ly_7 (by decide) (v := (1600 : Int32)) (by decide) dCT_copyAll_104 ?_
  obtain ⟨q1, q2, q3, q4, q5, q6, h⟩ := h
  refine g_copyb X hK.1 tw_349 tw_351 tw_350 tw_11 ly_15 ly_7 q1 q2 q3 q4 q5 q6 (Nat.le_of_ble_eq_true rfl) (Nat.le_of_ble_eq_true rfl) dCT_copyAll_105 ?_
  refine g_topM (fun M6 eM6 => ?_)
  have h := h M6 eM6
  refine g_aload_n X dCT_copyAll_108 rfl 1 rfl ?_
  refine g_getr X hK.1 fw_CT_31 ly_9 rfl dCT_copyAll_109 ?_
  refine g_iconst X (v := (0 : Int32)) dCT_copyAll_112 (by decide) ?_
  refine g_aload_n X dCT_copyAll_113 rfl 0 rfl ?_
  refine g_getr X hK.1 fw_CT_31 ly_1 rfl dCT_copyAll_114 ?_
  refine g_iconst X (v := (0 : Int32)) dCT_copyAll_117 (by decide) ?_
  refine g_aload_n X dCT_copyAll_118 rfl 0 rfl ?_
  refine g_getr X hK.1 fw_CT_31 ly_1 rfl dCT_copyAll_119 ?_
  refine g_alen X hK.1 ly_8 (by decide) (v := (1500 : Int32)) (by decide) dCT_copyAll_122 ?_
  obtain ⟨q1, q2, q3, q4, q5, h⟩ := h
  refine g_copyi X hK.1 tw_349 tw_351 tw_350 tw_11 ly_16 ly_8 q1 q2 q3 q4 q5 (Nat.le_of_ble_eq_true rfl) (Nat.le_of_ble_eq_true rfl) dCT_copyAll_123 ?_
  refine g_topM (fun M7 eM7 => ?_)
  have h := h M7 eM7
  refine g_aload_n X dCT_copyAll_126 rfl 0 rfl ?_
  refine g_aload_n X dCT_copyAll_127 rfl 1 rfl ?_
  refine g_geti X hK.1 fw_CT_40 ly_9 rfl dCT_copyAll_128 ?_
  refine g_puti X hK.1 fw_CT_40 pw_CT_4 ly_1 rfl dCT_copyAll_131 ?_
  refine g_topM (fun M8 eM8 => ?_)
  have h := h M8 eM8
  refine g_aload_n X dCT_copyAll_134 rfl 0 rfl ?_
  refine g_aload_n X dCT_copyAll_135 rfl 1 rfl ?_
  refine g_geti X hK.1 fw_CT_44 ly_9 rfl dCT_copyAll_136 ?_
  refine g_puti X hK.1 fw_CT_44 pw_CT_7 ly_1 rfl dCT_copyAll_139 ?_
  refine g_topM (fun M9 eM9 => ?_)
  have h := h M9 eM9
  refine g_aload_n X dCT_copyAll_142 rfl 0 rfl ?_
  refine g_aload_n X dCT_copyAll_143 rfl 1 rfl ?_
  refine g_geti X hK.1 fw_CT_47 ly_9 rfl dCT_copyAll_144 ?_
  refine g_puti X hK.1 fw_CT_47 pw_CT_9 ly_1 rfl dCT_copyAll_147 ?_
  refine g_topM (fun M10 eM10 => ?_)
  have h := h M10 eM10
  exact g_vret X hr hlk dCT_copyAll_150 ⟨rfl, h⟩
set_option maxRecDepth 100000 in
set_option maxHeartbeats 4000000 in
theorem m_OF_keep {l : Launch} {D : va_G} {ta : Nat → ClassId} {base : Nat} {sa : Nat → Nat} {post : gMem → Prop} {M : gMem} (h : wp_OF_keep post M) : GC gLay gCl D ta base gNw sa gTabs gTs l y_OF_keep b_OF_keep 1 none 2 39 [.ref (base + 0)] M (gPv post) := by
  refine GC.of (own := "ObjectFile") pn_OF rfl (Nat.le_of_ble_eq_true rfl) ?_
  intro p e s m below meth c X hK hr hlk
  refine g_args (L' := [(0, .ref (base + 0))]) rfl ?_
  unfold wp_OF_keep at h
  refine g_aload_n X dOF_keep_0 rfl 0 rfl ?_
  refine g_getr X hK.1 fw_OF_12 ly_0 rfl dOF_keep_1 ?_
  refine g_aload_n X dOF_keep_4 rfl 0 rfl ?_
  refine g_getr X hK.1 fw_OF_16 ly_0 rfl dOF_keep_5 ?_
  refine g_callVN X hK gTs_ok ly_1 rfl mw_CT_copyAll nw_888 mi_CT_copyAll ms_CT_copyAll (As := [.ref (base + 9)]) rfl ⟨(Nat.le_of_ble_eq_true rfl), (Nat.le_of_ble_eq_true rfl), Nat.le_refl _, Nat.le_refl _⟩ (m_CT_copyAll_m_9 h) (rest := []) rfl (Nat.le_of_ble_eq_true rfl) dOF_keep_8 (gk_v (fun M2 h => ?_))
  refine g_aload_n X dOF_keep_11 rfl 0 rfl ?_
  refine g_iconst X (v := (0 : Int32)) dOF_keep_12 (by decide) ?_
  refine g_puti X hK.1 fw_OF_67 pw_OF_8 ly_0 rfl dOF_keep_13 ?_
  refine g_topM (fun M3 eM3 => ?_)
  have h := h M3 eM3
  exact g_vret X hr hlk dOF_keep_16 ⟨rfl, h⟩
set_option maxRecDepth 100000 in
set_option maxHeartbeats 4000000 in
theorem m_OF_section {l : Launch} {D : va_G} {ta : Nat → ClassId} {base : Nat} {sa : Nat → Nat} {post : Int32 → gMem → Prop} {a0 : Int32} {a1 : Int32} {M : gMem} (h : wp_OF_section post a0 a1 M) : GC gLay gCl D ta base gNw sa gTabs gTs l y_OF_section b_OF_section 3 (some .int) 0 0 [.ref (base + 0), .int a0, .int a1] M (gPi post) := by
  refine GC.of (own := "ObjectFile") pn_OF rfl (Nat.le_of_ble_eq_true rfl) ?_
  intro p e s m below meth c X hK hr hlk
  refine g_args (L' := [(0, .ref (base + 0)), (1, .int a0), (2, .int a1)]) rfl ?_
  unfold wp_OF_section at h
  refine g_iload_n X dOF_section_0 rfl 1 rfl ?_
  refine g_if_lt X dOF_section_1 (fun c => ?_) (fun c => ?_)
  · have h := h.1 c
    refine g_iconst X (v := (-1 : Int32)) dOF_section_9 (by decide) ?_
    exact g_iret X hr hlk dOF_section_10 ⟨_, rfl, h⟩
  · have h := h.2 c
    refine g_iload_n X dOF_section_4 rfl 1 rfl ?_
    refine g_iconst X (v := (3 : Int32)) dOF_section_5 (by decide) ?_
    refine g_icmp_le X dOF_section_6 (fun c => ?_) (fun c => ?_)
    · have h := h.1 c
      refine g_iload_n X dOF_section_11 rfl 2 rfl ?_
      refine g_lookup X (dt := 60) [((0 : Int32), 40), ((1 : Int32), 50)] dOF_section_12.1 (by decide +kernel) (by decide +kernel) (by decide) ?_
      refine gSw_cons (fun c => ?_) (fun c => ?_)
      · have h := h.1 c
        refine g_aload_n X dOF_section_40 rfl 0 rfl ?_
        refine g_getr X hK.1 fw_OF_16 ly_0 rfl dOF_section_41 ?_
        refine g_getrN X hK.1 (gNw_of hK) fw_OF_75 ly_9 rfl dOF_section_44 ?_
        refine g_iload_n X dOF_section_47 rfl 1 rfl ?_
        obtain ⟨hi, h⟩ := h
        refine g_iald X hK.1 ly_11 hi dOF_section_48 ?_
        exact g_iret X hr hlk dOF_section_49 ⟨_, rfl, h⟩
      · have h := h.2 c
        refine gSw_cons (fun c => ?_) (fun c => ?_)
        · have h := h.1 c
          refine g_aload_n X dOF_section_50 rfl 0 rfl ?_
          refine g_getr X hK.1 fw_OF_16 ly_0 rfl dOF_section_51 ?_
          refine g_getrN X hK.1 (gNw_of hK) fw_OF_79 ly_9 rfl dOF_section_54 ?_
          refine g_iload_n X dOF_section_57 rfl 1 rfl ?_
          obtain ⟨hi, h⟩ := h
          refine g_iald X hK.1 ly_12 hi dOF_section_58 ?_
          exact g_iret X hr hlk dOF_section_59 ⟨_, rfl, h⟩
        · have h := h.2 c
          refine gSw_nil ?_
          refine g_iconst X (v := (-1 : Int32)) dOF_section_60 (by decide) ?_
          exact g_iret X hr hlk dOF_section_61 ⟨_, rfl, h⟩
    · have h := h.2 c
      refine g_iconst X (v := (-1 : Int32)) dOF_section_9 (by decide) ?_
      exact g_iret X hr hlk dOF_section_10 ⟨_, rfl, h⟩
set_option maxRecDepth 100000 in
set_option maxHeartbeats 4000000 in
theorem m_CT_byteOf_s {l : Launch} {D : va_G} {ta : Nat → ClassId} {base : Nat} {sa : Nat → Nat} {post : Int32 → gMem → Prop} {a0 : Int32} {a1 : Int32} {M : gMem} (h : wp_CT_byteOf_s post a0 a1 M) : GC gLay gCl D ta base gNw sa gTabs gTs l y_CT_byteOf b_CT_byteOf 3 (some .int) 0 0 [.ref (base + 9), .int a0, .int a1] M (gPi post) := by
  refine GC.of (own := "ObjectFile$Contents") pn_CT rfl (Nat.le_of_ble_eq_true rfl) ?_
  intro p e s m below meth c X hK hr hlk
  refine g_args (L' := [(0, .ref (base + 9)), (1, .int a0), (2, .int a1)]) rfl ?_
  unfold wp_CT_byteOf_s at h
  refine g_iload_n X dCT_byteOf_0 rfl 1 rfl ?_
  refine g_if_lt X dCT_byteOf_1 (fun c => ?_) (fun c => ?_)
  · have h := h.1 c
    refine g_iconst X (v := (-1 : Int32)) dCT_byteOf_23 (by decide) ?_
    exact g_iret X hr hlk dCT_byteOf_24 ⟨_, rfl, h⟩
  · have h := h.2 c
    refine g_iload_n X dCT_byteOf_4 rfl 1 rfl ?_
    refine g_iconst X (v := (2 : Int32)) dCT_byteOf_5 (by decide) ?_
    refine g_icmp_gt X dCT_byteOf_6 (fun c => ?_) (fun c => ?_)
    · have h := h.1 c
      refine g_iconst X (v := (-1 : Int32)) dCT_byteOf_23 (by decide) ?_
      exact g_iret X hr hlk dCT_byteOf_24 ⟨_, rfl, h⟩
    · have h := h.2 c
      refine g_iload_n X dCT_byteOf_9 rfl 2 rfl ?_
      refine g_if_lt X dCT_byteOf_10 (fun c => ?_) (fun c => ?_)
      · have h := h.1 c
        refine g_iconst X (v := (-1 : Int32)) dCT_byteOf_23 (by decide) ?_
        exact g_iret X hr hlk dCT_byteOf_24 ⟨_, rfl, h⟩
      · have h := h.2 c
        refine g_iload_n X dCT_byteOf_13 rfl 2 rfl ?_
        refine g_aload_n X dCT_byteOf_14 rfl 0 rfl ?_
        refine g_getr X hK.1 fw_CT_15 ly_9 rfl dCT_byteOf_15 ?_
        refine g_iload_n X dCT_byteOf_18 rfl 1 rfl ?_
        obtain ⟨hi, h⟩ := h
        refine g_iald X hK.1 ly_11 hi dCT_byteOf_19 ?_
        refine g_icmp_lt X dCT_byteOf_20 (fun c => ?_) (fun c => ?_)
        · have h := h.1 c
          refine g_aload_n X dCT_byteOf_25 rfl 0 rfl ?_
          refine g_getr X hK.1 fw_CT_9 ly_9 rfl dCT_byteOf_26 ?_
          refine g_iload_n X dCT_byteOf_29 rfl 1 rfl ?_
          refine g_sipush X (v := (2048 : Int32)) dCT_byteOf_30 (by decide) ?_
          refine g_imul X dCT_byteOf_33 ?_
          refine g_iload_n X dCT_byteOf_34 rfl 2 rfl ?_
          refine g_iadd X dCT_byteOf_35 ?_
          obtain ⟨hi, h⟩ := h
          refine g_bald X hK.1 ly_10 hi dCT_byteOf_36 ?_
          refine g_sipush X (v := (255 : Int32)) dCT_byteOf_37 (by decide) ?_
          refine g_iand X dCT_byteOf_40 ?_
          exact g_iret X hr hlk dCT_byteOf_41 ⟨_, rfl, h⟩
        · have h := h.2 c
          refine g_iconst X (v := (-1 : Int32)) dCT_byteOf_23 (by decide) ?_
          exact g_iret X hr hlk dCT_byteOf_24 ⟨_, rfl, h⟩
set_option maxRecDepth 100000 in
set_option maxHeartbeats 4000000 in
theorem m_OF_at {l : Launch} {D : va_G} {ta : Nat → ClassId} {base : Nat} {sa : Nat → Nat} {post : Int32 → gMem → Prop} {a0 : Int32} {a1 : Int32} {M : gMem} (h : wp_OF_at post a0 a1 M) : GC gLay gCl D ta base gNw sa gTabs gTs l y_OF_at b_OF_at 3 (some .int) 1 22 [.ref (base + 0), .int a0, .int a1] M (gPi post) := by
  refine GC.of (own := "ObjectFile") pn_OF rfl (Nat.le_of_ble_eq_true rfl) ?_
  intro p e s m below meth c X hK hr hlk
  refine g_args (L' := [(0, .ref (base + 0)), (1, .int a0), (2, .int a1)]) rfl ?_
  unfold wp_OF_at at h
  refine g_aload_n X dOF_at_0 rfl 0 rfl ?_
  refine g_getr X hK.1 fw_OF_16 ly_0 rfl dOF_at_1 ?_
  refine g_iload_n X dOF_at_4 rfl 1 rfl ?_
  refine g_iload_n X dOF_at_5 rfl 2 rfl ?_
  refine g_callVN X hK gTs_ok ly_9 rfl mw_CT_byteOf nw_900 mi_CT_byteOf ms_CT_byteOf (As := [.int a0, .int a1]) rfl ⟨(Nat.le_of_ble_eq_true rfl), (Nat.le_of_ble_eq_true rfl), Nat.le_refl _, Nat.le_refl _⟩ (m_CT_byteOf_s h) (rest := []) rfl (Nat.le_of_ble_eq_true rfl) dOF_at_6 (gk_i (fun r1 M2 h => ?_))
  exact g_iret X hr hlk dOF_at_9 ⟨_, rfl, h⟩
set_option maxRecDepth 100000 in
set_option maxHeartbeats 4000000 in
theorem m_CT_startOf_s {l : Launch} {D : va_G} {ta : Nat → ClassId} {base : Nat} {sa : Nat → Nat} {post : Int32 → gMem → Prop} {a0 : Int32} {M : gMem} (h : wp_CT_startOf_s post a0 M) : GC gLay gCl D ta base gNw sa gTabs gTs l y_CT_startOf b_CT_startOf 2 (some .int) 0 0 [.ref (base + 9), .int a0] M (gPi post) := by
  refine GC.of (own := "ObjectFile$Contents") pn_CT rfl (Nat.le_of_ble_eq_true rfl) ?_
  intro p e s m below meth c X hK hr hlk
  refine g_args (L' := [(0, .ref (base + 9)), (1, .int a0)]) rfl ?_
  unfold wp_CT_startOf_s at h
  refine g_iload_n X dCT_startOf_0 rfl 1 rfl ?_
  refine g_if_lt X dCT_startOf_1 (fun c => ?_) (fun c => ?_)
  · have h := h.1 c
    refine g_iconst X (v := (-1 : Int32)) dCT_startOf_12 (by decide) ?_
    refine g_goto X dCT_startOf_13 ?_
    exact g_iret X hr hlk dCT_startOf_22 ⟨_, rfl, h⟩
  · have h := h.2 c
    refine g_iload_n X dCT_startOf_4 rfl 1 rfl ?_
    refine g_aload_n X dCT_startOf_5 rfl 0 rfl ?_
    refine g_geti X hK.1 fw_CT_40 ly_9 rfl dCT_startOf_6 ?_
    refine g_icmp_lt X dCT_startOf_9 (fun c => ?_) (fun c => ?_)
    · have h := h.1 c
      refine g_aload_n X dCT_startOf_16 rfl 0 rfl ?_
      refine g_getr X hK.1 fw_CT_22 ly_9 rfl dCT_startOf_17 ?_
      refine g_iload_n X dCT_startOf_20 rfl 1 rfl ?_
      obtain ⟨hi, h⟩ := h
      refine g_iald X hK.1 ly_13 hi dCT_startOf_21 ?_
      exact g_iret X hr hlk dCT_startOf_22 ⟨_, rfl, h⟩
    · have h := h.2 c
      refine g_iconst X (v := (-1 : Int32)) dCT_startOf_12 (by decide) ?_
      refine g_goto X dCT_startOf_13 ?_
      exact g_iret X hr hlk dCT_startOf_22 ⟨_, rfl, h⟩
set_option maxRecDepth 100000 in
set_option maxHeartbeats 4000000 in
theorem m_CT_shortStarts_s {l : Launch} {D : va_G} {ta : Nat → ClassId} {base : Nat} {sa : Nat → Nat} {post : Int32 → gMem → Prop} {M : gMem} (h : wp_CT_shortStarts_s post M) : GC gLay gCl D ta base gNw sa gTabs gTs l y_CT_shortStarts b_CT_shortStarts 3 (some .int) 1 22 [.ref (base + 9)] M (gPi post) := by
  refine GC.of (own := "ObjectFile$Contents") pn_CT rfl (Nat.le_of_ble_eq_true rfl) ?_
  intro p e s m below meth c X hK hr hlk
  have r_4 : ∀ (n : Nat) (v1 : Int32) (v2 : Int32) (M : gMem), wl_CT_shortStarts_s_4 post n v1 v2 M → GMx D ta base p l e 1 22 s m [.ref (base + 9)] below meth c (gPi post) 3 4 [(0, .ref (base + 9)), (1, .int v1), (2, .int v2)] [] M := by
    intro n
    induction n with
    | zero => exact fun _ _ M h => h.elim
    | succ n ih =>
      intro v1 v2 M h
      refine g_iload_n X dCT_shortStarts_4 rfl 2 rfl ?_
      refine g_aload_n X dCT_shortStarts_5 rfl 0 rfl ?_
      refine g_geti X hK.1 fw_CT_40 ly_9 rfl dCT_shortStarts_6 ?_
      refine g_icmp_ge X dCT_shortStarts_9 (fun c => ?_) (fun c => ?_)
      · have h := h.1 c
        refine g_iload_n X dCT_shortStarts_37 rfl 1 rfl ?_
        exact g_iret X hr hlk dCT_shortStarts_38 ⟨_, rfl, h⟩
      · have h := h.2 c
        refine g_aload_n X dCT_shortStarts_12 rfl 0 rfl ?_
        refine g_iconst X (v := (0 : Int32)) dCT_shortStarts_13 (by decide) ?_
        refine g_aload_n X dCT_shortStarts_14 rfl 0 rfl ?_
        refine g_iload_n X dCT_shortStarts_15 rfl 2 rfl ?_
        refine g_callV X hK gTs_ok ly_9 rfl mw_CT_startOf tw_296 mi_CT_startOf ms_CT_startOf (As := [.int v2]) rfl ⟨(Nat.le_of_ble_eq_true rfl), (Nat.le_of_ble_eq_true rfl), Nat.le_refl _, Nat.le_refl _⟩ (m_CT_startOf_s h) (rest := [.int (0 : Int32), .ref (base + 9)]) rfl (Nat.le_of_ble_eq_true rfl) dCT_shortStarts_16 (gk_i (fun r1 M2 h => ?_))
        refine g_callV X hK gTs_ok ly_9 rfl mw_CT_byteOf tw_562 mi_CT_byteOf ms_CT_byteOf (As := [.int (0 : Int32), .int r1]) rfl ⟨(Nat.le_of_ble_eq_true rfl), (Nat.le_of_ble_eq_true rfl), Nat.le_refl _, Nat.le_refl _⟩ (m_CT_byteOf_s h) (rest := []) rfl (Nat.le_of_ble_eq_true rfl) dCT_shortStarts_19 (gk_i (fun r3 M4 h => ?_))
        refine g_callSN X hK gTs_ok mw_OF_isShort nw_566 mt_OF_isShort (As := [.int r3]) rfl ⟨(Nat.le_of_ble_eq_true rfl), (Nat.le_of_ble_eq_true rfl), Nat.le_refl _, Nat.le_refl _⟩ (m_OF_isShort h) (rest := []) rfl (Nat.le_of_ble_eq_true rfl) dCT_shortStarts_22 (gk_z (fun r5 M6 h => ?_))
        refine g_if_eq X dCT_shortStarts_25 (fun c => ?_) (fun c => ?_)
        · have h := h.1 c
          obtain ⟨x7, ex7⟩ : ∃ z : Int32, z = v2 + (1 : Int32) := ⟨_, rfl⟩
          have h := h x7 ex7
          refine g_iinc X (L' := [(2, .int x7), (0, .ref (base + 9)), (1, .int v1)]) (k := 2) dCT_shortStarts_31 rfl (v := x7) (by rw [ex7]; rfl) (Nat.le_of_ble_eq_true rfl) rfl ?_
          refine g_goto X dCT_shortStarts_34 ?_
          refine g_sub (L' := [(0, .ref (base + 9)), (1, .int v1), (2, .int x7)]) [1, 2, 0] rfl ?_
          exact ih v1 x7 M6 h
        · have h := h.2 c
          obtain ⟨x8, ex8⟩ : ∃ z : Int32, z = v1 + (1 : Int32) := ⟨_, rfl⟩
          have h := h x8 ex8
          refine g_iinc X (L' := [(1, .int x8), (0, .ref (base + 9)), (2, .int v2)]) (k := 1) dCT_shortStarts_28 rfl (v := x8) (by rw [ex8]; rfl) (Nat.le_of_ble_eq_true rfl) rfl ?_
          obtain ⟨x9, ex9⟩ : ∃ z : Int32, z = v2 + (1 : Int32) := ⟨_, rfl⟩
          have h := h x9 ex9
          refine g_iinc X (L' := [(2, .int x9), (1, .int x8), (0, .ref (base + 9))]) (k := 2) dCT_shortStarts_31 rfl (v := x9) (by rw [ex9]; rfl) (Nat.le_of_ble_eq_true rfl) rfl ?_
          refine g_goto X dCT_shortStarts_34 ?_
          refine g_sub (L' := [(0, .ref (base + 9)), (1, .int x8), (2, .int x9)]) [2, 1, 0] rfl ?_
          exact ih x8 x9 M6 h
  refine g_args (L' := [(0, .ref (base + 9))]) rfl ?_
  unfold wp_CT_shortStarts_s at h
  refine g_iconst X (v := (0 : Int32)) dCT_shortStarts_0 (by decide) ?_
  refine g_istore_n X (L' := [(1, .int (0 : Int32)), (0, .ref (base + 9))]) dCT_shortStarts_1 rfl (Nat.le_of_ble_eq_true rfl) rfl ?_
  refine g_iconst X (v := (0 : Int32)) dCT_shortStarts_2 (by decide) ?_
  refine g_istore_n X (L' := [(2, .int (0 : Int32)), (1, .int (0 : Int32)), (0, .ref (base + 9))]) dCT_shortStarts_3 rfl (Nat.le_of_ble_eq_true rfl) rfl ?_
  refine g_sub (L' := [(0, .ref (base + 9)), (1, .int (0 : Int32)), (2, .int (0 : Int32))]) [2, 1, 0] rfl ?_
  obtain ⟨n9, h⟩ := h
  exact r_4 n9 (0 : Int32) (0 : Int32) M h
set_option maxRecDepth 100000 in
set_option maxHeartbeats 4000000 in
theorem m_OF_count {l : Launch} {D : va_G} {ta : Nat → ClassId} {base : Nat} {sa : Nat → Nat} {post : Int32 → gMem → Prop} {a0 : Int32} {M : gMem} (h : wp_OF_count post a0 M) : GC gLay gCl D ta base gNw sa gTabs gTs l y_OF_count b_OF_count 2 (some .int) 2 44 [.ref (base + 0), .int a0] M (gPi post) := by
  refine GC.of (own := "ObjectFile") pn_OF rfl (Nat.le_of_ble_eq_true rfl) ?_
  intro p e s m below meth c X hK hr hlk
  refine g_args (L' := [(0, .ref (base + 0)), (1, .int a0)]) rfl ?_
  unfold wp_OF_count at h
  refine g_iload_n X dOF_count_0 rfl 1 rfl ?_
  refine g_table X (dt := 64) [((0 : Int32), 32), ((1 : Int32), 40), ((2 : Int32), 48), ((3 : Int32), 56)] dOF_count_1.1 (by decide +kernel) (by decide) (by decide) ?_
  refine gSw_cons (fun c => ?_) (fun c => ?_)
  · have h := h.1 c
    refine g_aload_n X dOF_count_32 rfl 0 rfl ?_
    refine g_getr X hK.1 fw_OF_16 ly_0 rfl dOF_count_33 ?_
    refine g_getiN X hK.1 (gNw_of hK) fw_OF_169 ly_9 rfl dOF_count_36 ?_
    exact g_iret X hr hlk dOF_count_39 ⟨_, rfl, h⟩
  · have h := h.2 c
    refine gSw_cons (fun c => ?_) (fun c => ?_)
    · have h := h.1 c
      refine g_aload_n X dOF_count_40 rfl 0 rfl ?_
      refine g_getr X hK.1 fw_OF_16 ly_0 rfl dOF_count_41 ?_
      refine g_getiN X hK.1 (gNw_of hK) fw_OF_121 ly_9 rfl dOF_count_44 ?_
      exact g_iret X hr hlk dOF_count_47 ⟨_, rfl, h⟩
    · have h := h.2 c
      refine gSw_cons (fun c => ?_) (fun c => ?_)
      · have h := h.1 c
        refine g_aload_n X dOF_count_48 rfl 0 rfl ?_
        refine g_getr X hK.1 fw_OF_16 ly_0 rfl dOF_count_49 ?_
        refine g_getiN X hK.1 (gNw_of hK) fw_OF_172 ly_9 rfl dOF_count_52 ?_
        exact g_iret X hr hlk dOF_count_55 ⟨_, rfl, h⟩
      · have h := h.2 c
        refine gSw_cons (fun c => ?_) (fun c => ?_)
        · have h := h.1 c
          refine g_aload_n X dOF_count_56 rfl 0 rfl ?_
          refine g_getr X hK.1 fw_OF_16 ly_0 rfl dOF_count_57 ?_
          refine g_callVN X hK gTs_ok ly_9 rfl mw_CT_shortStarts nw_905 mi_CT_shortStarts ms_CT_shortStarts (As := []) rfl ⟨(Nat.le_of_ble_eq_true rfl), (Nat.le_of_ble_eq_true rfl), Nat.le_refl _, Nat.le_refl _⟩ (m_CT_shortStarts_s h) (rest := []) rfl (Nat.le_of_ble_eq_true rfl) dOF_count_60 (gk_i (fun r1 M2 h => ?_))
          exact g_iret X hr hlk dOF_count_63 ⟨_, rfl, h⟩
        · have h := h.2 c
          refine gSw_nil ?_
          refine g_iconst X (v := (-1 : Int32)) dOF_count_64 (by decide) ?_
          exact g_iret X hr hlk dOF_count_65 ⟨_, rfl, h⟩
set_option maxRecDepth 100000 in
set_option maxHeartbeats 4000000 in
theorem m_OF_startAt {l : Launch} {D : va_G} {ta : Nat → ClassId} {base : Nat} {sa : Nat → Nat} {post : Int32 → gMem → Prop} {a0 : Int32} {M : gMem} (h : wp_OF_startAt post a0 M) : GC gLay gCl D ta base gNw sa gTabs gTs l y_OF_startAt b_OF_startAt 2 (some .int) 1 21 [.ref (base + 0), .int a0] M (gPi post) := by
  refine GC.of (own := "ObjectFile") pn_OF rfl (Nat.le_of_ble_eq_true rfl) ?_
  intro p e s m below meth c X hK hr hlk
  refine g_args (L' := [(0, .ref (base + 0)), (1, .int a0)]) rfl ?_
  unfold wp_OF_startAt at h
  refine g_aload_n X dOF_startAt_0 rfl 0 rfl ?_
  refine g_getr X hK.1 fw_OF_16 ly_0 rfl dOF_startAt_1 ?_
  refine g_iload_n X dOF_startAt_4 rfl 1 rfl ?_
  refine g_callVN X hK gTs_ok ly_9 rfl mw_CT_startOf nw_910 mi_CT_startOf ms_CT_startOf (As := [.int a0]) rfl ⟨(Nat.le_of_ble_eq_true rfl), (Nat.le_of_ble_eq_true rfl), Nat.le_refl _, Nat.le_refl _⟩ (m_CT_startOf_s h) (rest := []) rfl (Nat.le_of_ble_eq_true rfl) dOF_startAt_5 (gk_i (fun r1 M2 h => ?_))
  exact g_iret X hr hlk dOF_startAt_8 ⟨_, rfl, h⟩
set_option maxRecDepth 100000 in
set_option maxHeartbeats 4000000 in
theorem m_CT_symbolFact_s {l : Launch} {D : va_G} {ta : Nat → ClassId} {base : Nat} {sa : Nat → Nat} {post : Int32 → gMem → Prop} {a0 : Int32} {a1 : Int32} {M : gMem} (h : wp_CT_symbolFact_s post a0 a1 M) : GC gLay gCl D ta base gNw sa gTabs gTs l y_CT_symbolFact b_CT_symbolFact 3 (some .int) 0 0 [.ref (base + 9), .int a0, .int a1] M (gPi post) := by
  refine GC.of (own := "ObjectFile$Contents") pn_CT rfl (Nat.le_of_ble_eq_true rfl) ?_
  intro p e s m below meth c X hK hr hlk
  refine g_args (L' := [(0, .ref (base + 9)), (1, .int a0), (2, .int a1)]) rfl ?_
  unfold wp_CT_symbolFact_s at h
  refine g_iload_n X dCT_symbolFact_0 rfl 1 rfl ?_
  refine g_if_lt X dCT_symbolFact_1 (fun c => ?_) (fun c => ?_)
  · have h := h.1 c
    refine g_iconst X (v := (-1 : Int32)) dCT_symbolFact_22 (by decide) ?_
    exact g_iret X hr hlk dCT_symbolFact_23 ⟨_, rfl, h⟩
  · have h := h.2 c
    refine g_iload_n X dCT_symbolFact_4 rfl 1 rfl ?_
    refine g_aload_n X dCT_symbolFact_5 rfl 0 rfl ?_
    refine g_geti X hK.1 fw_CT_44 ly_9 rfl dCT_symbolFact_6 ?_
    refine g_icmp_ge X dCT_symbolFact_9 (fun c => ?_) (fun c => ?_)
    · have h := h.1 c
      refine g_iconst X (v := (-1 : Int32)) dCT_symbolFact_22 (by decide) ?_
      exact g_iret X hr hlk dCT_symbolFact_23 ⟨_, rfl, h⟩
    · have h := h.2 c
      refine g_iload_n X dCT_symbolFact_12 rfl 2 rfl ?_
      refine g_if_lt X dCT_symbolFact_13 (fun c => ?_) (fun c => ?_)
      · have h := h.1 c
        refine g_iconst X (v := (-1 : Int32)) dCT_symbolFact_22 (by decide) ?_
        exact g_iret X hr hlk dCT_symbolFact_23 ⟨_, rfl, h⟩
      · have h := h.2 c
        refine g_iload_n X dCT_symbolFact_16 rfl 2 rfl ?_
        refine g_bipush X (v := (6 : Int32)) dCT_symbolFact_17 (by decide) ?_
        refine g_icmp_lt X dCT_symbolFact_19 (fun c => ?_) (fun c => ?_)
        · have h := h.1 c
          refine g_aload_n X dCT_symbolFact_24 rfl 0 rfl ?_
          refine g_getr X hK.1 fw_CT_25 ly_9 rfl dCT_symbolFact_25 ?_
          refine g_iload_n X dCT_symbolFact_28 rfl 1 rfl ?_
          refine g_bipush X (v := (6 : Int32)) dCT_symbolFact_29 (by decide) ?_
          refine g_imul X dCT_symbolFact_31 ?_
          refine g_iload_n X dCT_symbolFact_32 rfl 2 rfl ?_
          refine g_iadd X dCT_symbolFact_33 ?_
          obtain ⟨hi, h⟩ := h
          refine g_iald X hK.1 ly_14 hi dCT_symbolFact_34 ?_
          exact g_iret X hr hlk dCT_symbolFact_35 ⟨_, rfl, h⟩
        · have h := h.2 c
          refine g_iconst X (v := (-1 : Int32)) dCT_symbolFact_22 (by decide) ?_
          exact g_iret X hr hlk dCT_symbolFact_23 ⟨_, rfl, h⟩
set_option maxRecDepth 100000 in
set_option maxHeartbeats 4000000 in
theorem m_CT_nameCharacter_s {l : Launch} {D : va_G} {ta : Nat → ClassId} {base : Nat} {sa : Nat → Nat} {post : Int32 → gMem → Prop} {a0 : Int32} {a1 : Int32} {M : gMem} (h : wp_CT_nameCharacter_s post a0 a1 M) : GC gLay gCl D ta base gNw sa gTabs gTs l y_CT_nameCharacter b_CT_nameCharacter 3 (some .int) 1 22 [.ref (base + 9), .int a0, .int a1] M (gPi post) := by
  refine GC.of (own := "ObjectFile$Contents") pn_CT rfl (Nat.le_of_ble_eq_true rfl) ?_
  intro p e s m below meth c X hK hr hlk
  refine g_args (L' := [(0, .ref (base + 9)), (1, .int a0), (2, .int a1)]) rfl ?_
  unfold wp_CT_nameCharacter_s at h
  refine g_iload_n X dCT_nameCharacter_0 rfl 2 rfl ?_
  refine g_if_lt X dCT_nameCharacter_1 (fun c => ?_) (fun c => ?_)
  · have h := h.1 c
    refine g_iconst X (v := (-1 : Int32)) dCT_nameCharacter_14 (by decide) ?_
    refine g_goto X dCT_nameCharacter_15 ?_
    exact g_iret X hr hlk dCT_nameCharacter_29 ⟨_, rfl, h⟩
  · have h := h.2 c
    refine g_iload_n X dCT_nameCharacter_4 rfl 2 rfl ?_
    refine g_aload_n X dCT_nameCharacter_5 rfl 0 rfl ?_
    refine g_iload_n X dCT_nameCharacter_6 rfl 1 rfl ?_
    refine g_iconst X (v := (5 : Int32)) dCT_nameCharacter_7 (by decide) ?_
    refine g_callV X hK gTs_ok ly_9 rfl mw_CT_symbolFact tw_333 mi_CT_symbolFact ms_CT_symbolFact (As := [.int a0, .int (5 : Int32)]) rfl ⟨(Nat.le_of_ble_eq_true rfl), (Nat.le_of_ble_eq_true rfl), Nat.le_refl _, Nat.le_refl _⟩ (m_CT_symbolFact_s h) (rest := [.int a1]) rfl (Nat.le_of_ble_eq_true rfl) dCT_nameCharacter_8 (gk_i (fun r1 M2 h => ?_))
    refine g_icmp_lt X dCT_nameCharacter_11 (fun c => ?_) (fun c => ?_)
    · have h := h.1 c
      refine g_aload_n X dCT_nameCharacter_18 rfl 0 rfl ?_
      refine g_getr X hK.1 fw_CT_28 ly_9 rfl dCT_nameCharacter_19 ?_
      refine g_iload_n X dCT_nameCharacter_22 rfl 1 rfl ?_
      refine g_bipush X (v := (16 : Int32)) dCT_nameCharacter_23 (by decide) ?_
      refine g_imul X dCT_nameCharacter_25 ?_
      refine g_iload_n X dCT_nameCharacter_26 rfl 2 rfl ?_
      refine g_iadd X dCT_nameCharacter_27 ?_
      obtain ⟨hi, h⟩ := h
      refine g_bald X hK.1 ly_15 hi dCT_nameCharacter_28 ?_
      exact g_iret X hr hlk dCT_nameCharacter_29 ⟨_, rfl, h⟩
    · have h := h.2 c
      refine g_iconst X (v := (-1 : Int32)) dCT_nameCharacter_14 (by decide) ?_
      refine g_goto X dCT_nameCharacter_15 ?_
      exact g_iret X hr hlk dCT_nameCharacter_29 ⟨_, rfl, h⟩
set_option maxRecDepth 100000 in
set_option maxHeartbeats 4000000 in
theorem m_OF_symbolAt {l : Launch} {D : va_G} {ta : Nat → ClassId} {base : Nat} {sa : Nat → Nat} {post : Int32 → gMem → Prop} {a0 : Int32} {a1 : Int32} {M : gMem} (h : wp_OF_symbolAt post a0 a1 M) : GC gLay gCl D ta base gNw sa gTabs gTs l y_OF_symbolAt b_OF_symbolAt 3 (some .int) 2 44 [.ref (base + 0), .int a0, .int a1] M (gPi post) := by
  refine GC.of (own := "ObjectFile") pn_OF rfl (Nat.le_of_ble_eq_true rfl) ?_
  intro p e s m below meth c X hK hr hlk
  refine g_args (L' := [(0, .ref (base + 0)), (1, .int a0), (2, .int a1)]) rfl ?_
  unfold wp_OF_symbolAt at h
  refine g_iload_n X dOF_symbolAt_0 rfl 2 rfl ?_
  refine g_bipush X (v := (6 : Int32)) dOF_symbolAt_1 (by decide) ?_
  refine g_icmp_ge X dOF_symbolAt_3 (fun c => ?_) (fun c => ?_)
  · have h := h.1 c
    refine g_aload_n X dOF_symbolAt_18 rfl 0 rfl ?_
    refine g_getr X hK.1 fw_OF_16 ly_0 rfl dOF_symbolAt_19 ?_
    refine g_iload_n X dOF_symbolAt_22 rfl 1 rfl ?_
    refine g_iload_n X dOF_symbolAt_23 rfl 2 rfl ?_
    refine g_bipush X (v := (6 : Int32)) dOF_symbolAt_24 (by decide) ?_
    refine g_isub X dOF_symbolAt_26 ?_
    refine g_callVN X hK gTs_ok ly_9 rfl mw_CT_nameCharacter nw_916 mi_CT_nameCharacter ms_CT_nameCharacter (As := [.int a0, .int (a1 - (6 : Int32))]) rfl ⟨(Nat.le_of_ble_eq_true rfl), (Nat.le_of_ble_eq_true rfl), Nat.le_refl _, Nat.le_refl _⟩ (m_CT_nameCharacter_s h) (rest := []) rfl (Nat.le_of_ble_eq_true rfl) dOF_symbolAt_27 (gk_i (fun r1 M2 h => ?_))
    exact g_iret X hr hlk dOF_symbolAt_30 ⟨_, rfl, h⟩
  · have h := h.2 c
    refine g_aload_n X dOF_symbolAt_6 rfl 0 rfl ?_
    refine g_getr X hK.1 fw_OF_16 ly_0 rfl dOF_symbolAt_7 ?_
    refine g_iload_n X dOF_symbolAt_10 rfl 1 rfl ?_
    refine g_iload_n X dOF_symbolAt_11 rfl 2 rfl ?_
    refine g_callVN X hK gTs_ok ly_9 rfl mw_CT_symbolFact nw_915 mi_CT_symbolFact ms_CT_symbolFact (As := [.int a0, .int a1]) rfl ⟨(Nat.le_of_ble_eq_true rfl), (Nat.le_of_ble_eq_true rfl), Nat.le_refl _, Nat.le_refl _⟩ (m_CT_symbolFact_s h) (rest := []) rfl (Nat.le_of_ble_eq_true rfl) dOF_symbolAt_12 (gk_i (fun r3 M4 h => ?_))
    refine g_goto X dOF_symbolAt_15 ?_
    exact g_iret X hr hlk dOF_symbolAt_30 ⟨_, rfl, h⟩
set_option maxRecDepth 100000 in
set_option maxHeartbeats 4000000 in
theorem m_CT_relocationFact_s {l : Launch} {D : va_G} {ta : Nat → ClassId} {base : Nat} {sa : Nat → Nat} {post : Int32 → gMem → Prop} {a0 : Int32} {a1 : Int32} {M : gMem} (h : wp_CT_relocationFact_s post a0 a1 M) : GC gLay gCl D ta base gNw sa gTabs gTs l y_CT_relocationFact b_CT_relocationFact 3 (some .int) 0 0 [.ref (base + 9), .int a0, .int a1] M (gPi post) := by
  refine GC.of (own := "ObjectFile$Contents") pn_CT rfl (Nat.le_of_ble_eq_true rfl) ?_
  intro p e s m below meth c X hK hr hlk
  refine g_args (L' := [(0, .ref (base + 9)), (1, .int a0), (2, .int a1)]) rfl ?_
  unfold wp_CT_relocationFact_s at h
  refine g_iload_n X dCT_relocationFact_0 rfl 1 rfl ?_
  refine g_if_lt X dCT_relocationFact_1 (fun c => ?_) (fun c => ?_)
  · have h := h.1 c
    refine g_iconst X (v := (-1 : Int32)) dCT_relocationFact_21 (by decide) ?_
    exact g_iret X hr hlk dCT_relocationFact_22 ⟨_, rfl, h⟩
  · have h := h.2 c
    refine g_iload_n X dCT_relocationFact_4 rfl 1 rfl ?_
    refine g_aload_n X dCT_relocationFact_5 rfl 0 rfl ?_
    refine g_geti X hK.1 fw_CT_47 ly_9 rfl dCT_relocationFact_6 ?_
    refine g_icmp_ge X dCT_relocationFact_9 (fun c => ?_) (fun c => ?_)
    · have h := h.1 c
      refine g_iconst X (v := (-1 : Int32)) dCT_relocationFact_21 (by decide) ?_
      exact g_iret X hr hlk dCT_relocationFact_22 ⟨_, rfl, h⟩
    · have h := h.2 c
      refine g_iload_n X dCT_relocationFact_12 rfl 2 rfl ?_
      refine g_if_lt X dCT_relocationFact_13 (fun c => ?_) (fun c => ?_)
      · have h := h.1 c
        refine g_iconst X (v := (-1 : Int32)) dCT_relocationFact_21 (by decide) ?_
        exact g_iret X hr hlk dCT_relocationFact_22 ⟨_, rfl, h⟩
      · have h := h.2 c
        refine g_iload_n X dCT_relocationFact_16 rfl 2 rfl ?_
        refine g_iconst X (v := (5 : Int32)) dCT_relocationFact_17 (by decide) ?_
        refine g_icmp_lt X dCT_relocationFact_18 (fun c => ?_) (fun c => ?_)
        · have h := h.1 c
          refine g_aload_n X dCT_relocationFact_23 rfl 0 rfl ?_
          refine g_getr X hK.1 fw_CT_31 ly_9 rfl dCT_relocationFact_24 ?_
          refine g_iload_n X dCT_relocationFact_27 rfl 1 rfl ?_
          refine g_iconst X (v := (5 : Int32)) dCT_relocationFact_28 (by decide) ?_
          refine g_imul X dCT_relocationFact_29 ?_
          refine g_iload_n X dCT_relocationFact_30 rfl 2 rfl ?_
          refine g_iadd X dCT_relocationFact_31 ?_
          obtain ⟨hi, h⟩ := h
          refine g_iald X hK.1 ly_16 hi dCT_relocationFact_32 ?_
          exact g_iret X hr hlk dCT_relocationFact_33 ⟨_, rfl, h⟩
        · have h := h.2 c
          refine g_iconst X (v := (-1 : Int32)) dCT_relocationFact_21 (by decide) ?_
          exact g_iret X hr hlk dCT_relocationFact_22 ⟨_, rfl, h⟩
set_option maxRecDepth 100000 in
set_option maxHeartbeats 4000000 in
theorem m_OF_relocationAt {l : Launch} {D : va_G} {ta : Nat → ClassId} {base : Nat} {sa : Nat → Nat} {post : Int32 → gMem → Prop} {a0 : Int32} {a1 : Int32} {M : gMem} (h : wp_OF_relocationAt post a0 a1 M) : GC gLay gCl D ta base gNw sa gTabs gTs l y_OF_relocationAt b_OF_relocationAt 3 (some .int) 1 22 [.ref (base + 0), .int a0, .int a1] M (gPi post) := by
  refine GC.of (own := "ObjectFile") pn_OF rfl (Nat.le_of_ble_eq_true rfl) ?_
  intro p e s m below meth c X hK hr hlk
  refine g_args (L' := [(0, .ref (base + 0)), (1, .int a0), (2, .int a1)]) rfl ?_
  unfold wp_OF_relocationAt at h
  refine g_aload_n X dOF_relocationAt_0 rfl 0 rfl ?_
  refine g_getr X hK.1 fw_OF_16 ly_0 rfl dOF_relocationAt_1 ?_
  refine g_iload_n X dOF_relocationAt_4 rfl 1 rfl ?_
  refine g_iload_n X dOF_relocationAt_5 rfl 2 rfl ?_
  refine g_callVN X hK gTs_ok ly_9 rfl mw_CT_relocationFact nw_921 mi_CT_relocationFact ms_CT_relocationFact (As := [.int a0, .int a1]) rfl ⟨(Nat.le_of_ble_eq_true rfl), (Nat.le_of_ble_eq_true rfl), Nat.le_refl _, Nat.le_refl _⟩ (m_CT_relocationFact_s h) (rest := []) rfl (Nat.le_of_ble_eq_true rfl) dOF_relocationAt_6 (gk_i (fun r1 M2 h => ?_))
  exact g_iret X hr hlk dOF_relocationAt_9 ⟨_, rfl, h⟩
