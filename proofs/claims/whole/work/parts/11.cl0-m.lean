set_option maxRecDepth 100000 in
set_option maxHeartbeats 4000000 in
theorem m_AR_fill1_3 {l : Launch} {D : va_G} {ta : Nat → ClassId} {base : Nat} {sa : Nat → Nat} {post : gMem → Prop} {a1 : Int32} {M : gMem} (h : wp_AR_fill1_3 post a1 M) : GC gLay gCl D ta base gNw sa gTabs gTs l y_AR_fill1 b_AR_fill1 4 none 0 0 [.ref (base + 3), .int a1] M (gPv post) := by
  refine GC.of (own := "java/util/Arrays") pn_AR rfl (Nat.le_of_ble_eq_true rfl) ?_
  intro p e s m below meth c X hK hr hlk
  have r_5 : ∀ (n : Nat) (v1 : Int32) (v2 : Int32) (v3 : Int32) (M : gMem), wl_AR_fill1_3_5 post n v1 v2 v3 M → GMx D ta base p l e 0 0 s m [.ref (base + 3), .int a1] below meth c (gPv post) 4 5 [(0, .ref (base + 3)), (1, .int v1), (2, .int v2), (3, .int v3)] [] M := by
    intro n
    induction n with
    | zero => exact fun _ _ _ M h => h.elim
    | succ n ih =>
      intro v1 v2 v3 M h
      refine g_iload_n X dAR_fill1_5 rfl 2 rfl ?_
      refine g_iload_n X dAR_fill1_6 rfl 3 rfl ?_
      refine g_icmp_ge X dAR_fill1_7 (fun c => ?_) (fun c => ?_)
      · have h := h.1 c
        exact g_vret X hr hlk dAR_fill1_20 ⟨rfl, h⟩
      · have h := h.2 c
        refine g_aload_n X dAR_fill1_10 rfl 0 rfl ?_
        refine g_iload_n X dAR_fill1_11 rfl 2 rfl ?_
        refine g_iload_n X dAR_fill1_12 rfl 1 rfl ?_
        obtain ⟨hi, h⟩ := h
        refine g_iast X hK.1 ly_3 hi dAR_fill1_13 ?_
        refine g_topM (fun M1 eM1 => ?_)
        have h := h M1 eM1
        obtain ⟨x2, ex2⟩ : ∃ z : Int32, z = v2 + (1 : Int32) := ⟨_, rfl⟩
        have h := h x2 ex2
        refine g_iinc X (L' := [(2, .int x2), (0, .ref (base + 3)), (1, .int v1), (3, .int v3)]) (k := 2) dAR_fill1_14 rfl (v := x2) (by rw [ex2]; rfl) (Nat.le_of_ble_eq_true rfl) rfl ?_
        refine g_goto X dAR_fill1_17 ?_
        refine g_sub (L' := [(0, .ref (base + 3)), (1, .int v1), (2, .int x2), (3, .int v3)]) [1, 2, 0, 3] rfl ?_
        exact ih v1 x2 v3 M1 h
  refine g_args (L' := [(0, .ref (base + 3)), (1, .int a1)]) rfl ?_
  unfold wp_AR_fill1_3 at h
  refine g_iconst X (v := (0 : Int32)) dAR_fill1_0 (by decide) ?_
  refine g_istore_n X (L' := [(2, .int (0 : Int32)), (0, .ref (base + 3)), (1, .int a1)]) dAR_fill1_1 rfl (Nat.le_of_ble_eq_true rfl) rfl ?_
  refine g_aload_n X dAR_fill1_2 rfl 1 rfl ?_
  refine g_alen X hK.1 ly_3 (by decide) (v := (4 : Int32)) (by decide) dAR_fill1_3 ?_
  refine g_istore_n X (L' := [(3, .int (4 : Int32)), (2, .int (0 : Int32)), (0, .ref (base + 3)), (1, .int a1)]) dAR_fill1_4 rfl (Nat.le_of_ble_eq_true rfl) rfl ?_
  refine g_sub (L' := [(0, .ref (base + 3)), (1, .int a1), (2, .int (0 : Int32)), (3, .int (4 : Int32))]) [2, 3, 1, 0] rfl ?_
  obtain ⟨n9, h⟩ := h
  exact r_5 n9 a1 (0 : Int32) (4 : Int32) M h
set_option maxRecDepth 100000 in
set_option maxHeartbeats 4000000 in
theorem m_AR_fill1_4 {l : Launch} {D : va_G} {ta : Nat → ClassId} {base : Nat} {sa : Nat → Nat} {post : gMem → Prop} {a1 : Int32} {M : gMem} (h : wp_AR_fill1_4 post a1 M) : GC gLay gCl D ta base gNw sa gTabs gTs l y_AR_fill1 b_AR_fill1 4 none 0 0 [.ref (base + 4), .int a1] M (gPv post) := by
  refine GC.of (own := "java/util/Arrays") pn_AR rfl (Nat.le_of_ble_eq_true rfl) ?_
  intro p e s m below meth c X hK hr hlk
  have r_5 : ∀ (n : Nat) (v1 : Int32) (v2 : Int32) (v3 : Int32) (M : gMem), wl_AR_fill1_4_5 post n v1 v2 v3 M → GMx D ta base p l e 0 0 s m [.ref (base + 4), .int a1] below meth c (gPv post) 4 5 [(0, .ref (base + 4)), (1, .int v1), (2, .int v2), (3, .int v3)] [] M := by
    intro n
    induction n with
    | zero => exact fun _ _ _ M h => h.elim
    | succ n ih =>
      intro v1 v2 v3 M h
      refine g_iload_n X dAR_fill1_5 rfl 2 rfl ?_
      refine g_iload_n X dAR_fill1_6 rfl 3 rfl ?_
      refine g_icmp_ge X dAR_fill1_7 (fun c => ?_) (fun c => ?_)
      · have h := h.1 c
        exact g_vret X hr hlk dAR_fill1_20 ⟨rfl, h⟩
      · have h := h.2 c
        refine g_aload_n X dAR_fill1_10 rfl 0 rfl ?_
        refine g_iload_n X dAR_fill1_11 rfl 2 rfl ?_
        refine g_iload_n X dAR_fill1_12 rfl 1 rfl ?_
        obtain ⟨hi, h⟩ := h
        refine g_iast X hK.1 ly_4 hi dAR_fill1_13 ?_
        refine g_topM (fun M1 eM1 => ?_)
        have h := h M1 eM1
        obtain ⟨x2, ex2⟩ : ∃ z : Int32, z = v2 + (1 : Int32) := ⟨_, rfl⟩
        have h := h x2 ex2
        refine g_iinc X (L' := [(2, .int x2), (0, .ref (base + 4)), (1, .int v1), (3, .int v3)]) (k := 2) dAR_fill1_14 rfl (v := x2) (by rw [ex2]; rfl) (Nat.le_of_ble_eq_true rfl) rfl ?_
        refine g_goto X dAR_fill1_17 ?_
        refine g_sub (L' := [(0, .ref (base + 4)), (1, .int v1), (2, .int x2), (3, .int v3)]) [1, 2, 0, 3] rfl ?_
        exact ih v1 x2 v3 M1 h
  refine g_args (L' := [(0, .ref (base + 4)), (1, .int a1)]) rfl ?_
  unfold wp_AR_fill1_4 at h
  refine g_iconst X (v := (0 : Int32)) dAR_fill1_0 (by decide) ?_
  refine g_istore_n X (L' := [(2, .int (0 : Int32)), (0, .ref (base + 4)), (1, .int a1)]) dAR_fill1_1 rfl (Nat.le_of_ble_eq_true rfl) rfl ?_
  refine g_aload_n X dAR_fill1_2 rfl 1 rfl ?_
  refine g_alen X hK.1 ly_4 (by decide) (v := (4 : Int32)) (by decide) dAR_fill1_3 ?_
  refine g_istore_n X (L' := [(3, .int (4 : Int32)), (2, .int (0 : Int32)), (0, .ref (base + 4)), (1, .int a1)]) dAR_fill1_4 rfl (Nat.le_of_ble_eq_true rfl) rfl ?_
  refine g_sub (L' := [(0, .ref (base + 4)), (1, .int a1), (2, .int (0 : Int32)), (3, .int (4 : Int32))]) [2, 3, 1, 0] rfl ?_
  obtain ⟨n9, h⟩ := h
  exact r_5 n9 a1 (0 : Int32) (4 : Int32) M h
set_option maxRecDepth 100000 in
set_option maxHeartbeats 4000000 in
theorem m_CT_reset_m {l : Launch} {D : va_G} {ta : Nat → ClassId} {base : Nat} {sa : Nat → Nat} {post : gMem → Prop} {M : gMem} (h : wp_CT_reset_m post M) : GC gLay gCl D ta base gNw sa gTabs gTs l y_CT_reset b_CT_reset 1 none 1 23 [.ref (base + 1)] M (gPv post) := by
  refine GC.of (own := "ObjectFile$Contents") pn_CT rfl (Nat.le_of_ble_eq_true rfl) ?_
  intro p e s m below meth c X hK hr hlk
  refine g_args (L' := [(0, .ref (base + 1))]) rfl ?_
  unfold wp_CT_reset_m at h
  refine g_aload_n X dCT_reset_0 rfl 0 rfl ?_
  refine g_getr X hK.1 fw_CT_15 ly_1 rfl dCT_reset_1 ?_
  refine g_iconst X (v := (0 : Int32)) dCT_reset_4 (by decide) ?_
  refine g_callS X hK gTs_ok mw_AR_fill1 tw_269 mt_AR_fill1 (As := [.ref (base + 3), .int (0 : Int32)]) rfl ⟨(Nat.le_of_ble_eq_true rfl), (Nat.le_of_ble_eq_true rfl), Nat.le_refl _, Nat.le_refl _⟩ (m_AR_fill1_3 h) (rest := []) rfl (Nat.le_of_ble_eq_true rfl) dCT_reset_5 (gk_v (fun M2 h => ?_))
  refine g_aload_n X dCT_reset_8 rfl 0 rfl ?_
  refine g_getr X hK.1 fw_CT_19 ly_1 rfl dCT_reset_9 ?_
  refine g_iconst X (v := (1 : Int32)) dCT_reset_12 (by decide) ?_
  refine g_callS X hK gTs_ok mw_AR_fill1 tw_269 mt_AR_fill1 (As := [.ref (base + 4), .int (1 : Int32)]) rfl ⟨(Nat.le_of_ble_eq_true rfl), (Nat.le_of_ble_eq_true rfl), Nat.le_refl _, Nat.le_refl _⟩ (m_AR_fill1_4 h) (rest := []) rfl (Nat.le_of_ble_eq_true rfl) dCT_reset_13 (gk_v (fun M4 h => ?_))
  refine g_aload_n X dCT_reset_16 rfl 0 rfl ?_
  refine g_iconst X (v := (0 : Int32)) dCT_reset_17 (by decide) ?_
  refine g_puti X hK.1 fw_CT_40 pw_CT_4 ly_1 rfl dCT_reset_18 ?_
  refine g_topM (fun M5 eM5 => ?_)
  have h := h M5 eM5
  refine g_aload_n X dCT_reset_21 rfl 0 rfl ?_
  refine g_iconst X (v := (0 : Int32)) dCT_reset_22 (by decide) ?_
  refine g_puti X hK.1 fw_CT_44 pw_CT_7 ly_1 rfl dCT_reset_23 ?_
  refine g_topM (fun M6 eM6 => ?_)
  have h := h M6 eM6
  refine g_aload_n X dCT_reset_26 rfl 0 rfl ?_
  refine g_iconst X (v := (0 : Int32)) dCT_reset_27 (by decide) ?_
  refine g_puti X hK.1 fw_CT_47 pw_CT_9 ly_1 rfl dCT_reset_28 ?_
  refine g_topM (fun M7 eM7 => ?_)
  have h := h M7 eM7
  exact g_vret X hr hlk dCT_reset_31 ⟨rfl, h⟩
set_option maxRecDepth 100000 in
set_option maxHeartbeats 4000000 in
theorem m_OF_clear {l : Launch} {D : va_G} {ta : Nat → ClassId} {base : Nat} {sa : Nat → Nat} {post : gMem → Prop} {M : gMem} (h : wp_OF_clear post M) : GC gLay gCl D ta base gNw sa gTabs gTs l y_OF_clear b_OF_clear 1 none 2 43 [.ref (base + 0)] M (gPv post) := by
  refine GC.of (own := "ObjectFile") pn_OF rfl (Nat.le_of_ble_eq_true rfl) ?_
  intro p e s m below meth c X hK hr hlk
  refine g_args (L' := [(0, .ref (base + 0))]) rfl ?_
  unfold wp_OF_clear at h
  refine g_aload_n X dOF_clear_0 rfl 0 rfl ?_
  refine g_getr X hK.1 fw_OF_12 ly_0 rfl dOF_clear_1 ?_
  refine g_callVN X hK gTs_ok ly_1 rfl mw_CT_reset nw_265 mi_CT_reset ms_CT_reset (As := []) rfl ⟨(Nat.le_of_ble_eq_true rfl), (Nat.le_of_ble_eq_true rfl), Nat.le_refl _, Nat.le_refl _⟩ (m_CT_reset_m h) (rest := []) rfl (Nat.le_of_ble_eq_true rfl) dOF_clear_4 (gk_v (fun M2 h => ?_))
  refine g_aload_n X dOF_clear_7 rfl 0 rfl ?_
  refine g_iconst X (v := (0 : Int32)) dOF_clear_8 (by decide) ?_
  refine g_puti X hK.1 fw_OF_67 pw_OF_8 ly_0 rfl dOF_clear_9 ?_
  refine g_topM (fun M3 eM3 => ?_)
  have h := h M3 eM3
  exact g_vret X hr hlk dOF_clear_12 ⟨rfl, h⟩
set_option maxRecDepth 100000 in
set_option maxHeartbeats 4000000 in
theorem m_CT_append_m {l : Launch} {D : va_G} {ta : Nat → ClassId} {base : Nat} {sa : Nat → Nat} {post : Bool → gMem → Prop} {a0 : Int32} {a1 : Int32} {a2 : Int64} {M : gMem} (h : wp_CT_append_m post a0 a1 a2 M) : GC gLay gCl D ta base gNw sa gTabs gTs l y_CT_append b_CT_append 6 (some .boolean) 0 0 [.ref (base + 1), .int a0, .int a1, .long a2] M (gPz post) := by
  refine GC.of (own := "ObjectFile$Contents") pn_CT rfl (Nat.le_of_ble_eq_true rfl) ?_
  intro p e s m below meth c X hK hr hlk
  have r_39 : ∀ (n : Nat) (v1 : Int32) (v2 : Int32) (v3 : Int64) (v5 : Int32) (M : gMem), wl_CT_append_m_39 post n v1 v2 v3 v5 M → GMx D ta base p l e 0 0 s m [.ref (base + 1), .int a0, .int a1, .long a2] below meth c (gPz post) 6 39 [(0, .ref (base + 1)), (1, .int v1), (2, .int v2), (3, .long v3), (5, .int v5)] [] M := by
    intro n
    induction n with
    | zero => exact fun _ _ _ _ M h => h.elim
    | succ n ih =>
      intro v1 v2 v3 v5 M h
      refine g_iload X dCT_append_39 4 rfl ?_
      refine g_iload_n X dCT_append_41 rfl 2 rfl ?_
      refine g_icmp_ge X dCT_append_42 (fun c => ?_) (fun c => ?_)
      · have h := h.1 c
        refine g_iconst X (v := (1 : Int32)) dCT_append_90 (by decide) ?_
        exact g_zret X hr hlk (by decide) dCT_append_91 ⟨true, rfl, h⟩
      · have h := h.2 c
        refine g_aload_n X dCT_append_45 rfl 0 rfl ?_
        refine g_getr X hK.1 fw_CT_9 ly_1 rfl dCT_append_46 ?_
        refine g_iload_n X dCT_append_49 rfl 1 rfl ?_
        refine g_sipush X (v := (2048 : Int32)) dCT_append_50 (by decide) ?_
        refine g_imul X dCT_append_53 ?_
        refine g_aload_n X dCT_append_54 rfl 0 rfl ?_
        refine g_getr X hK.1 fw_CT_15 ly_1 rfl dCT_append_55 ?_
        refine g_iload_n X dCT_append_58 rfl 1 rfl ?_
        obtain ⟨hi, h⟩ := h
        refine g_iald X hK.1 ly_3 hi dCT_append_59 ?_
        refine g_iadd X dCT_append_60 ?_
        refine g_lload_n X dCT_append_61 rfl 3 rfl ?_
        refine g_bipush X (v := (56 : Int32)) dCT_append_62 (by decide) ?_
        refine g_bipush X (v := (8 : Int32)) dCT_append_64 (by decide) ?_
        refine g_iload X dCT_append_66 4 rfl ?_
        refine g_imul X dCT_append_68 ?_
        refine g_isub X dCT_append_69 ?_
        refine g_lushr X dCT_append_70 rfl ?_
        refine g_l2i X dCT_append_71 rfl ?_
        refine g_i2b X dCT_append_72 rfl ?_
        obtain ⟨hi, h⟩ := h
        refine g_bast X hK.1 ly_2 hi dCT_append_73 ?_
        refine g_topM (fun M1 eM1 => ?_)
        have h := h M1 eM1
        refine g_aload_n X dCT_append_74 rfl 0 rfl ?_
        refine g_getr X hK.1 fw_CT_15 ly_1 rfl dCT_append_75 ?_
        refine g_iload_n X dCT_append_78 rfl 1 rfl ?_
        refine g_dup2_11 X dCT_append_79 rfl rfl ?_
        obtain ⟨hi, h⟩ := h
        refine g_iald X hK.1 ly_3 hi dCT_append_80 ?_
        refine g_iconst X (v := (1 : Int32)) dCT_append_81 (by decide) ?_
        refine g_iadd X dCT_append_82 ?_
        obtain ⟨hi, h⟩ := h
        refine g_iast X hK.1 ly_3 hi dCT_append_83 ?_
        refine g_topM (fun M2 eM2 => ?_)
        have h := h M2 eM2
        obtain ⟨x3, ex3⟩ : ∃ z : Int32, z = v5 + (1 : Int32) := ⟨_, rfl⟩
        have h := h x3 ex3
        refine g_iinc X (L' := [(5, .int x3), (0, .ref (base + 1)), (1, .int v1), (2, .int v2), (3, .long v3)]) (k := 4) dCT_append_84 rfl (v := x3) (by rw [ex3]; rfl) (Nat.le_of_ble_eq_true rfl) rfl ?_
        refine g_goto X dCT_append_87 ?_
        refine g_sub (L' := [(0, .ref (base + 1)), (1, .int v1), (2, .int v2), (3, .long v3), (5, .int x3)]) [1, 2, 3, 4, 0] rfl ?_
        exact ih v1 v2 v3 x3 M2 h
  refine g_args (L' := [(0, .ref (base + 1)), (1, .int a0), (2, .int a1), (3, .long a2)]) rfl ?_
  unfold wp_CT_append_m at h
  refine g_iload_n X dCT_append_0 rfl 1 rfl ?_
  refine g_if_lt X dCT_append_1 (fun c => ?_) (fun c => ?_)
  · have h := h.1 c
    refine g_iconst X (v := (0 : Int32)) dCT_append_34 (by decide) ?_
    exact g_zret X hr hlk (by decide) dCT_append_35 ⟨false, rfl, h⟩
  · have h := h.2 c
    refine g_iload_n X dCT_append_4 rfl 1 rfl ?_
    refine g_iconst X (v := (2 : Int32)) dCT_append_5 (by decide) ?_
    refine g_icmp_gt X dCT_append_6 (fun c => ?_) (fun c => ?_)
    · have h := h.1 c
      refine g_iconst X (v := (0 : Int32)) dCT_append_34 (by decide) ?_
      exact g_zret X hr hlk (by decide) dCT_append_35 ⟨false, rfl, h⟩
    · have h := h.2 c
      refine g_iload_n X dCT_append_9 rfl 2 rfl ?_
      refine g_iconst X (v := (1 : Int32)) dCT_append_10 (by decide) ?_
      refine g_icmp_lt X dCT_append_11 (fun c => ?_) (fun c => ?_)
      · have h := h.1 c
        refine g_iconst X (v := (0 : Int32)) dCT_append_34 (by decide) ?_
        exact g_zret X hr hlk (by decide) dCT_append_35 ⟨false, rfl, h⟩
      · have h := h.2 c
        refine g_iload_n X dCT_append_14 rfl 2 rfl ?_
        refine g_bipush X (v := (8 : Int32)) dCT_append_15 (by decide) ?_
        refine g_icmp_gt X dCT_append_17 (fun c => ?_) (fun c => ?_)
        · have h := h.1 c
          refine g_iconst X (v := (0 : Int32)) dCT_append_34 (by decide) ?_
          exact g_zret X hr hlk (by decide) dCT_append_35 ⟨false, rfl, h⟩
        · have h := h.2 c
          refine g_aload_n X dCT_append_20 rfl 0 rfl ?_
          refine g_getr X hK.1 fw_CT_15 ly_1 rfl dCT_append_21 ?_
          refine g_iload_n X dCT_append_24 rfl 1 rfl ?_
          obtain ⟨hi, h⟩ := h
          refine g_iald X hK.1 ly_3 hi dCT_append_25 ?_
          refine g_iload_n X dCT_append_26 rfl 2 rfl ?_
          refine g_iadd X dCT_append_27 ?_
          refine g_sipush X (v := (2048 : Int32)) dCT_append_28 (by decide) ?_
          refine g_icmp_le X dCT_append_31 (fun c => ?_) (fun c => ?_)
          · have h := h.1 c
            refine g_iconst X (v := (0 : Int32)) dCT_append_36 (by decide) ?_
            refine g_istore X (L' := [(5, .int (0 : Int32)), (0, .ref (base + 1)), (1, .int a0), (2, .int a1), (3, .long a2)]) dCT_append_37 (Nat.le_of_ble_eq_true rfl) rfl ?_
            refine g_sub (L' := [(0, .ref (base + 1)), (1, .int a0), (2, .int a1), (3, .long a2), (5, .int (0 : Int32))]) [1, 2, 3, 4, 0] rfl ?_
            obtain ⟨n9, h⟩ := h
            exact r_39 n9 a0 a1 a2 (0 : Int32) M h
          · have h := h.2 c
            refine g_iconst X (v := (0 : Int32)) dCT_append_34 (by decide) ?_
            exact g_zret X hr hlk (by decide) dCT_append_35 ⟨false, rfl, h⟩
set_option maxRecDepth 100000 in
set_option maxHeartbeats 4000000 in
theorem m_OF_put {l : Launch} {D : va_G} {ta : Nat → ClassId} {base : Nat} {sa : Nat → Nat} {post : Bool → gMem → Prop} {a0 : Int32} {a1 : Int32} {a2 : Int64} {M : gMem} (h : wp_OF_put post a0 a1 a2 M) : GC gLay gCl D ta base gNw sa gTabs gTs l y_OF_put b_OF_put 5 (some .boolean) 1 25 [.ref (base + 0), .int a0, .int a1, .long a2] M (gPz post) := by
  refine GC.of (own := "ObjectFile") pn_OF rfl (Nat.le_of_ble_eq_true rfl) ?_
  intro p e s m below meth c X hK hr hlk
  refine g_args (L' := [(0, .ref (base + 0)), (1, .int a0), (2, .int a1), (3, .long a2)]) rfl ?_
  unfold wp_OF_put at h
  refine g_aload_n X dOF_put_0 rfl 0 rfl ?_
  refine g_getr X hK.1 fw_OF_12 ly_0 rfl dOF_put_1 ?_
  refine g_iload_n X dOF_put_4 rfl 1 rfl ?_
  refine g_iload_n X dOF_put_5 rfl 2 rfl ?_
  refine g_lload_n X dOF_put_6 rfl 3 rfl ?_
  refine g_callVN X hK gTs_ok ly_1 rfl mw_CT_append nw_276 mi_CT_append ms_CT_append (As := [.int a0, .int a1, .long a2]) rfl ⟨(Nat.le_of_ble_eq_true rfl), (Nat.le_of_ble_eq_true rfl), Nat.le_refl _, Nat.le_refl _⟩ (m_CT_append_m h) (rest := []) rfl (Nat.le_of_ble_eq_true rfl) dOF_put_7 (gk_z (fun r1 M2 h => ?_))
  exact g_zret X hr hlk (bI_n r1) dOF_put_10 ⟨r1, rfl, h⟩
set_option maxRecDepth 100000 in
set_option maxHeartbeats 4000000 in
theorem m_OF_bss {l : Launch} {D : va_G} {ta : Nat → ClassId} {base : Nat} {sa : Nat → Nat} {post : Bool → gMem → Prop} {a0 : Int32} {M : gMem} (h : wp_OF_bss post a0 M) : GC gLay gCl D ta base gNw sa gTabs gTs l y_OF_bss b_OF_bss 2 (some .boolean) 0 0 [.ref (base + 0), .int a0] M (gPz post) := by
  refine GC.of (own := "ObjectFile") pn_OF rfl (Nat.le_of_ble_eq_true rfl) ?_
  intro p e s m below meth c X hK hr hlk
  refine g_args (L' := [(0, .ref (base + 0)), (1, .int a0)]) rfl ?_
  unfold wp_OF_bss at h
  refine g_iload_n X dOF_bss_0 rfl 1 rfl ?_
  refine g_if_lt X dOF_bss_1 (fun c => ?_) (fun c => ?_)
  · have h := h.1 c
    refine g_iconst X (v := (0 : Int32)) dOF_bss_11 (by decide) ?_
    exact g_zret X hr hlk (by decide) dOF_bss_12 ⟨false, rfl, h⟩
  · have h := h.2 c
    refine g_iload_n X dOF_bss_4 rfl 1 rfl ?_
    refine g_sipush X (v := (4096 : Int32)) dOF_bss_5 (by decide) ?_
    refine g_icmp_le X dOF_bss_8 (fun c => ?_) (fun c => ?_)
    · have h := h.1 c
      refine g_aload_n X dOF_bss_13 rfl 0 rfl ?_
      refine g_getr X hK.1 fw_OF_12 ly_0 rfl dOF_bss_14 ?_
      refine g_getrN X hK.1 (gNw_of hK) fw_OF_75 ly_1 rfl dOF_bss_17 ?_
      refine g_iconst X (v := (3 : Int32)) dOF_bss_20 (by decide) ?_
      refine g_iload_n X dOF_bss_21 rfl 1 rfl ?_
      obtain ⟨hi, h⟩ := h
      refine g_iast X hK.1 ly_3 hi dOF_bss_22 ?_
      refine g_topM (fun M1 eM1 => ?_)
      have h := h M1 eM1
      refine g_iconst X (v := (1 : Int32)) dOF_bss_23 (by decide) ?_
      exact g_zret X hr hlk (by decide) dOF_bss_24 ⟨true, rfl, h⟩
    · have h := h.2 c
      refine g_iconst X (v := (0 : Int32)) dOF_bss_11 (by decide) ?_
      exact g_zret X hr hlk (by decide) dOF_bss_12 ⟨false, rfl, h⟩
set_option maxRecDepth 100000 in
set_option maxHeartbeats 4000000 in
theorem m_OF_align {l : Launch} {D : va_G} {ta : Nat → ClassId} {base : Nat} {sa : Nat → Nat} {post : Bool → gMem → Prop} {a0 : Int32} {a1 : Int32} {M : gMem} (h : wp_OF_align post a0 a1 M) : GC gLay gCl D ta base gNw sa gTabs gTs l y_OF_align b_OF_align 3 (some .boolean) 0 0 [.ref (base + 0), .int a0, .int a1] M (gPz post) := by
  refine GC.of (own := "ObjectFile") pn_OF rfl (Nat.le_of_ble_eq_true rfl) ?_
  intro p e s m below meth c X hK hr hlk
  refine g_args (L' := [(0, .ref (base + 0)), (1, .int a0), (2, .int a1)]) rfl ?_
  unfold wp_OF_align at h
  refine g_iload_n X dOF_align_0 rfl 1 rfl ?_
  refine g_if_lt X dOF_align_1 (fun c => ?_) (fun c => ?_)
  · have h := h.1 c
    refine g_iconst X (v := (0 : Int32)) dOF_align_19 (by decide) ?_
    exact g_zret X hr hlk (by decide) dOF_align_20 ⟨false, rfl, h⟩
  · have h := h.2 c
    refine g_iload_n X dOF_align_4 rfl 1 rfl ?_
    refine g_iconst X (v := (3 : Int32)) dOF_align_5 (by decide) ?_
    refine g_icmp_gt X dOF_align_6 (fun c => ?_) (fun c => ?_)
    · have h := h.1 c
      refine g_iconst X (v := (0 : Int32)) dOF_align_19 (by decide) ?_
      exact g_zret X hr hlk (by decide) dOF_align_20 ⟨false, rfl, h⟩
    · have h := h.2 c
      refine g_iload_n X dOF_align_9 rfl 2 rfl ?_
      refine g_if_lt X dOF_align_10 (fun c => ?_) (fun c => ?_)
      · have h := h.1 c
        refine g_iconst X (v := (0 : Int32)) dOF_align_19 (by decide) ?_
        exact g_zret X hr hlk (by decide) dOF_align_20 ⟨false, rfl, h⟩
      · have h := h.2 c
        refine g_iload_n X dOF_align_13 rfl 2 rfl ?_
        refine g_bipush X (v := (6 : Int32)) dOF_align_14 (by decide) ?_
        refine g_icmp_le X dOF_align_16 (fun c => ?_) (fun c => ?_)
        · have h := h.1 c
          refine g_aload_n X dOF_align_21 rfl 0 rfl ?_
          refine g_getr X hK.1 fw_OF_12 ly_0 rfl dOF_align_22 ?_
          refine g_getrN X hK.1 (gNw_of hK) fw_OF_79 ly_1 rfl dOF_align_25 ?_
          refine g_iload_n X dOF_align_28 rfl 1 rfl ?_
          refine g_iconst X (v := (1 : Int32)) dOF_align_29 (by decide) ?_
          refine g_iload_n X dOF_align_30 rfl 2 rfl ?_
          refine g_ishl X dOF_align_31 ?_
          obtain ⟨hi, h⟩ := h
          refine g_iast X hK.1 ly_4 hi dOF_align_32 ?_
          refine g_topM (fun M1 eM1 => ?_)
          have h := h M1 eM1
          refine g_iconst X (v := (1 : Int32)) dOF_align_33 (by decide) ?_
          exact g_zret X hr hlk (by decide) dOF_align_34 ⟨true, rfl, h⟩
        · have h := h.2 c
          refine g_iconst X (v := (0 : Int32)) dOF_align_19 (by decide) ?_
          exact g_zret X hr hlk (by decide) dOF_align_20 ⟨false, rfl, h⟩
set_option maxRecDepth 100000 in
set_option maxHeartbeats 4000000 in
theorem m_CT_startOf_m {l : Launch} {D : va_G} {ta : Nat → ClassId} {base : Nat} {sa : Nat → Nat} {post : Int32 → gMem → Prop} {a0 : Int32} {M : gMem} (h : wp_CT_startOf_m post a0 M) : GC gLay gCl D ta base gNw sa gTabs gTs l y_CT_startOf b_CT_startOf 2 (some .int) 0 0 [.ref (base + 1), .int a0] M (gPi post) := by
  refine GC.of (own := "ObjectFile$Contents") pn_CT rfl (Nat.le_of_ble_eq_true rfl) ?_
  intro p e s m below meth c X hK hr hlk
  refine g_args (L' := [(0, .ref (base + 1)), (1, .int a0)]) rfl ?_
  unfold wp_CT_startOf_m at h
  refine g_iload_n X dCT_startOf_0 rfl 1 rfl ?_
  refine g_if_lt X dCT_startOf_1 (fun c => ?_) (fun c => ?_)
  · have h := h.1 c
    refine g_iconst X (v := (-1 : Int32)) dCT_startOf_12 (by decide) ?_
    refine g_goto X dCT_startOf_13 ?_
    exact g_iret X hr hlk dCT_startOf_22 ⟨_, rfl, h⟩
  · have h := h.2 c
    refine g_iload_n X dCT_startOf_4 rfl 1 rfl ?_
    refine g_aload_n X dCT_startOf_5 rfl 0 rfl ?_
    refine g_geti X hK.1 fw_CT_40 ly_1 rfl dCT_startOf_6 ?_
    refine g_icmp_lt X dCT_startOf_9 (fun c => ?_) (fun c => ?_)
    · have h := h.1 c
      refine g_aload_n X dCT_startOf_16 rfl 0 rfl ?_
      refine g_getr X hK.1 fw_CT_22 ly_1 rfl dCT_startOf_17 ?_
      refine g_iload_n X dCT_startOf_20 rfl 1 rfl ?_
      obtain ⟨hi, h⟩ := h
      refine g_iald X hK.1 ly_5 hi dCT_startOf_21 ?_
      exact g_iret X hr hlk dCT_startOf_22 ⟨_, rfl, h⟩
    · have h := h.2 c
      refine g_iconst X (v := (-1 : Int32)) dCT_startOf_12 (by decide) ?_
      refine g_goto X dCT_startOf_13 ?_
      exact g_iret X hr hlk dCT_startOf_22 ⟨_, rfl, h⟩
set_option maxRecDepth 100000 in
set_option maxHeartbeats 4000000 in
theorem m_CT_latestStart_m {l : Launch} {D : va_G} {ta : Nat → ClassId} {base : Nat} {sa : Nat → Nat} {post : Int32 → gMem → Prop} {M : gMem} (h : wp_CT_latestStart_m post M) : GC gLay gCl D ta base gNw sa gTabs gTs l y_CT_latestStart b_CT_latestStart 1 (some .int) 1 21 [.ref (base + 1)] M (gPi post) := by
  refine GC.of (own := "ObjectFile$Contents") pn_CT rfl (Nat.le_of_ble_eq_true rfl) ?_
  intro p e s m below meth c X hK hr hlk
  refine g_args (L' := [(0, .ref (base + 1))]) rfl ?_
  unfold wp_CT_latestStart_m at h
  refine g_aload_n X dCT_latestStart_0 rfl 0 rfl ?_
  refine g_aload_n X dCT_latestStart_1 rfl 0 rfl ?_
  refine g_geti X hK.1 fw_CT_40 ly_1 rfl dCT_latestStart_2 ?_
  refine g_iconst X (v := (1 : Int32)) dCT_latestStart_5 (by decide) ?_
  refine g_isub X dCT_latestStart_6 ?_
  refine g_callV X hK gTs_ok ly_1 rfl mw_CT_startOf tw_296 mi_CT_startOf ms_CT_startOf (As := [.int ((M 1 4) - (1 : Int32))]) rfl ⟨(Nat.le_of_ble_eq_true rfl), (Nat.le_of_ble_eq_true rfl), Nat.le_refl _, Nat.le_refl _⟩ (m_CT_startOf_m h) (rest := []) rfl (Nat.le_of_ble_eq_true rfl) dCT_latestStart_7 (gk_i (fun r1 M2 h => ?_))
  exact g_iret X hr hlk dCT_latestStart_10 ⟨_, rfl, h⟩
set_option maxRecDepth 100000 in
set_option maxHeartbeats 4000000 in
theorem m_CT_addStart_m {l : Launch} {D : va_G} {ta : Nat → ClassId} {base : Nat} {sa : Nat → Nat} {post : Bool → gMem → Prop} {a0 : Int32} {M : gMem} (h : wp_CT_addStart_m post a0 M) : GC gLay gCl D ta base gNw sa gTabs gTs l y_CT_addStart b_CT_addStart 2 (some .boolean) 0 0 [.ref (base + 1), .int a0] M (gPz post) := by
  refine GC.of (own := "ObjectFile$Contents") pn_CT rfl (Nat.le_of_ble_eq_true rfl) ?_
  intro p e s m below meth c X hK hr hlk
  refine g_args (L' := [(0, .ref (base + 1)), (1, .int a0)]) rfl ?_
  unfold wp_CT_addStart_m at h
  refine g_aload_n X dCT_addStart_0 rfl 0 rfl ?_
  refine g_geti X hK.1 fw_CT_40 ly_1 rfl dCT_addStart_1 ?_
  refine g_if_lt X dCT_addStart_4 (fun c => ?_) (fun c => ?_)
  · have h := h.1 c
    refine g_iconst X (v := (0 : Int32)) dCT_addStart_17 (by decide) ?_
    exact g_zret X hr hlk (by decide) dCT_addStart_18 ⟨false, rfl, h⟩
  · have h := h.2 c
    refine g_aload_n X dCT_addStart_7 rfl 0 rfl ?_
    refine g_geti X hK.1 fw_CT_40 ly_1 rfl dCT_addStart_8 ?_
    refine g_sipush X (v := (1024 : Int32)) dCT_addStart_11 (by decide) ?_
    refine g_icmp_lt X dCT_addStart_14 (fun c => ?_) (fun c => ?_)
    · have h := h.1 c
      refine g_aload_n X dCT_addStart_19 rfl 0 rfl ?_
      refine g_getr X hK.1 fw_CT_22 ly_1 rfl dCT_addStart_20 ?_
      refine g_aload_n X dCT_addStart_23 rfl 0 rfl ?_
      refine g_geti X hK.1 fw_CT_40 ly_1 rfl dCT_addStart_24 ?_
      refine g_iload_n X dCT_addStart_27 rfl 1 rfl ?_
      obtain ⟨hi, h⟩ := h
      refine g_iast X hK.1 ly_5 hi dCT_addStart_28 ?_
      refine g_topM (fun M1 eM1 => ?_)
      have h := h M1 eM1
      refine g_aload_n X dCT_addStart_29 rfl 0 rfl ?_
      refine g_dup X dCT_addStart_30 rfl ?_
      refine g_geti X hK.1 fw_CT_40 ly_1 rfl dCT_addStart_31 ?_
      refine g_iconst X (v := (1 : Int32)) dCT_addStart_34 (by decide) ?_
      refine g_iadd X dCT_addStart_35 ?_
      refine g_puti X hK.1 fw_CT_40 pw_CT_4 ly_1 rfl dCT_addStart_36 ?_
      refine g_topM (fun M2 eM2 => ?_)
      have h := h M2 eM2
      refine g_iconst X (v := (1 : Int32)) dCT_addStart_39 (by decide) ?_
      exact g_zret X hr hlk (by decide) dCT_addStart_40 ⟨true, rfl, h⟩
    · have h := h.2 c
      refine g_iconst X (v := (0 : Int32)) dCT_addStart_17 (by decide) ?_
      exact g_zret X hr hlk (by decide) dCT_addStart_18 ⟨false, rfl, h⟩
set_option maxRecDepth 100000 in
set_option maxHeartbeats 4000000 in
theorem m_OF_start {l : Launch} {D : va_G} {ta : Nat → ClassId} {base : Nat} {sa : Nat → Nat} {post : Bool → gMem → Prop} {a0 : Int32} {M : gMem} (h : wp_OF_start post a0 M) : GC gLay gCl D ta base gNw sa gTabs gTs l y_OF_start b_OF_start 2 (some .boolean) 2 41 [.ref (base + 0), .int a0] M (gPz post) := by
  refine GC.of (own := "ObjectFile") pn_OF rfl (Nat.le_of_ble_eq_true rfl) ?_
  intro p e s m below meth c X hK hr hlk
  refine g_args (L' := [(0, .ref (base + 0)), (1, .int a0)]) rfl ?_
  unfold wp_OF_start at h
  refine g_iload_n X dOF_start_0 rfl 1 rfl ?_
  refine g_if_lt X dOF_start_1 (fun c => ?_) (fun c => ?_)
  · have h := h.1 c
    refine g_iconst X (v := (0 : Int32)) dOF_start_17 (by decide) ?_
    exact g_zret X hr hlk (by decide) dOF_start_18 ⟨false, rfl, h⟩
  · have h := h.2 c
    refine g_iload_n X dOF_start_4 rfl 1 rfl ?_
    refine g_sipush X (v := (2048 : Int32)) dOF_start_5 (by decide) ?_
    refine g_icmp_ge X dOF_start_8 (fun c => ?_) (fun c => ?_)
    · have h := h.1 c
      refine g_iconst X (v := (0 : Int32)) dOF_start_17 (by decide) ?_
      exact g_zret X hr hlk (by decide) dOF_start_18 ⟨false, rfl, h⟩
    · have h := h.2 c
      refine g_iload_n X dOF_start_11 rfl 1 rfl ?_
      refine g_iconst X (v := (1 : Int32)) dOF_start_12 (by decide) ?_
      refine g_iand X dOF_start_13 ?_
      refine g_if_eq X dOF_start_14 (fun c => ?_) (fun c => ?_)
      · have h := h.1 c
        refine g_iload_n X dOF_start_19 rfl 1 rfl ?_
        refine g_aload_n X dOF_start_20 rfl 0 rfl ?_
        refine g_getr X hK.1 fw_OF_12 ly_0 rfl dOF_start_21 ?_
        refine g_callVN X hK gTs_ok ly_1 rfl mw_CT_latestStart nw_292 mi_CT_latestStart ms_CT_latestStart (As := []) rfl ⟨(Nat.le_of_ble_eq_true rfl), (Nat.le_of_ble_eq_true rfl), Nat.le_refl _, Nat.le_refl _⟩ (m_CT_latestStart_m h) (rest := [.int a0]) rfl (Nat.le_of_ble_eq_true rfl) dOF_start_24 (gk_i (fun r1 M2 h => ?_))
        refine g_icmp_le X dOF_start_27 (fun c => ?_) (fun c => ?_)
        · have h := h.1 c
          refine g_iconst X (v := (0 : Int32)) dOF_start_45 (by decide) ?_
          exact g_zret X hr hlk (by decide) dOF_start_46 ⟨false, rfl, h⟩
        · have h := h.2 c
          refine g_aload_n X dOF_start_30 rfl 0 rfl ?_
          refine g_getr X hK.1 fw_OF_12 ly_0 rfl dOF_start_31 ?_
          refine g_iload_n X dOF_start_34 rfl 1 rfl ?_
          refine g_callVN X hK gTs_ok ly_1 rfl mw_CT_addStart nw_300 mi_CT_addStart ms_CT_addStart (As := [.int a0]) rfl ⟨(Nat.le_of_ble_eq_true rfl), (Nat.le_of_ble_eq_true rfl), Nat.le_refl _, Nat.le_refl _⟩ (m_CT_addStart_m h) (rest := []) rfl (Nat.le_of_ble_eq_true rfl) dOF_start_35 (gk_z (fun r3 M4 h => ?_))
          refine g_if_eq X dOF_start_38 (fun c => ?_) (fun c => ?_)
          · have h := h.1 c
            refine g_iconst X (v := (0 : Int32)) dOF_start_45 (by decide) ?_
            exact g_zret X hr hlk (by decide) dOF_start_46 ⟨false, rfl, h⟩
          · have h := h.2 c
            refine g_iconst X (v := (1 : Int32)) dOF_start_41 (by decide) ?_
            refine g_goto X dOF_start_42 ?_
            exact g_zret X hr hlk (by decide) dOF_start_46 ⟨true, rfl, h⟩
      · have h := h.2 c
        refine g_iconst X (v := (0 : Int32)) dOF_start_17 (by decide) ?_
        exact g_zret X hr hlk (by decide) dOF_start_18 ⟨false, rfl, h⟩
set_option maxRecDepth 100000 in
set_option maxHeartbeats 4000000 in
theorem m_OF_isNameCharacter {l : Launch} {D : va_G} {ta : Nat → ClassId} {base : Nat} {sa : Nat → Nat} {post : Bool → gMem → Prop} {a0 : Int32} {M : gMem} (h : wp_OF_isNameCharacter post a0 M) : GC gLay gCl D ta base gNw sa gTabs gTs l y_OF_isNameCharacter b_OF_isNameCharacter 1 (some .boolean) 0 0 [.int a0] M (gPz post) := by
  refine GC.of (own := "ObjectFile") pn_OF rfl (Nat.le_of_ble_eq_true rfl) ?_
  intro p e s m below meth c X hK hr hlk
  refine g_args (L' := [(0, .int a0)]) rfl ?_
  unfold wp_OF_isNameCharacter at h
  refine g_iload_n X dOF_isNameCharacter_0 rfl 0 rfl ?_
  refine g_bipush X (v := (33 : Int32)) dOF_isNameCharacter_1 (by decide) ?_
  refine g_icmp_lt X dOF_isNameCharacter_3 (fun c => ?_) (fun c => ?_)
  · have h := h.1 c
    refine g_iconst X (v := (0 : Int32)) dOF_isNameCharacter_16 (by decide) ?_
    exact g_zret X hr hlk (by decide) dOF_isNameCharacter_17 ⟨false, rfl, h⟩
  · have h := h.2 c
    refine g_iload_n X dOF_isNameCharacter_6 rfl 0 rfl ?_
    refine g_bipush X (v := (126 : Int32)) dOF_isNameCharacter_7 (by decide) ?_
    refine g_icmp_gt X dOF_isNameCharacter_9 (fun c => ?_) (fun c => ?_)
    · have h := h.1 c
      refine g_iconst X (v := (0 : Int32)) dOF_isNameCharacter_16 (by decide) ?_
      exact g_zret X hr hlk (by decide) dOF_isNameCharacter_17 ⟨false, rfl, h⟩
    · have h := h.2 c
      refine g_iconst X (v := (1 : Int32)) dOF_isNameCharacter_12 (by decide) ?_
      refine g_goto X dOF_isNameCharacter_13 ?_
      exact g_zret X hr hlk (by decide) dOF_isNameCharacter_17 ⟨true, rfl, h⟩
set_option maxRecDepth 100000 in
set_option maxHeartbeats 4000000 in
theorem m_OF_letter {l : Launch} {D : va_G} {ta : Nat → ClassId} {base : Nat} {sa : Nat → Nat} {post : Bool → gMem → Prop} {a0 : Int32} {M : gMem} (h : wp_OF_letter post a0 M) : GC gLay gCl D ta base gNw sa gTabs gTs l y_OF_letter b_OF_letter 2 (some .boolean) 1 20 [.ref (base + 0), .int a0] M (gPz post) := by
  refine GC.of (own := "ObjectFile") pn_OF rfl (Nat.le_of_ble_eq_true rfl) ?_
  intro p e s m below meth c X hK hr hlk
  refine g_args (L' := [(0, .ref (base + 0)), (1, .int a0)]) rfl ?_
  unfold wp_OF_letter at h
  refine g_iload_n X dOF_letter_0 rfl 1 rfl ?_
  refine g_callS X hK gTs_ok mw_OF_isNameCharacter tw_308 mt_OF_isNameCharacter (As := [.int a0]) rfl ⟨(Nat.le_of_ble_eq_true rfl), (Nat.le_of_ble_eq_true rfl), Nat.le_refl _, Nat.le_refl _⟩ (m_OF_isNameCharacter h) (rest := []) rfl (Nat.le_of_ble_eq_true rfl) dOF_letter_1 (gk_z (fun r1 M2 h => ?_))
  refine g_if_eq X dOF_letter_4 (fun c => ?_) (fun c => ?_)
  · have h := h.1 c
    refine g_iconst X (v := (0 : Int32)) dOF_letter_23 (by decide) ?_
    exact g_zret X hr hlk (by decide) dOF_letter_24 ⟨false, rfl, h⟩
  · have h := h.2 c
    refine g_aload_n X dOF_letter_7 rfl 0 rfl ?_
    refine g_geti X hK.1 fw_OF_67 ly_0 rfl dOF_letter_8 ?_
    refine g_if_lt X dOF_letter_11 (fun c => ?_) (fun c => ?_)
    · have h := h.1 c
      refine g_iconst X (v := (0 : Int32)) dOF_letter_23 (by decide) ?_
      exact g_zret X hr hlk (by decide) dOF_letter_24 ⟨false, rfl, h⟩
    · have h := h.2 c
      refine g_aload_n X dOF_letter_14 rfl 0 rfl ?_
      refine g_geti X hK.1 fw_OF_67 ly_0 rfl dOF_letter_15 ?_
      refine g_bipush X (v := (16 : Int32)) dOF_letter_18 (by decide) ?_
      refine g_icmp_lt X dOF_letter_20 (fun c => ?_) (fun c => ?_)
      · have h := h.1 c
        refine g_aload_n X dOF_letter_25 rfl 0 rfl ?_
        refine g_getr X hK.1 fw_OF_60 ly_0 rfl dOF_letter_26 ?_
        refine g_aload_n X dOF_letter_29 rfl 0 rfl ?_
        refine g_geti X hK.1 fw_OF_67 ly_0 rfl dOF_letter_30 ?_
        refine g_iload_n X dOF_letter_33 rfl 1 rfl ?_
        refine g_i2b X dOF_letter_34 rfl ?_
        obtain ⟨hi, h⟩ := h
        refine g_bast X hK.1 ly_40 hi dOF_letter_35 ?_
        refine g_topM (fun M3 eM3 => ?_)
        have h := h M3 eM3
        refine g_aload_n X dOF_letter_36 rfl 0 rfl ?_
        refine g_dup X dOF_letter_37 rfl ?_
        refine g_geti X hK.1 fw_OF_67 ly_0 rfl dOF_letter_38 ?_
        refine g_iconst X (v := (1 : Int32)) dOF_letter_41 (by decide) ?_
        refine g_iadd X dOF_letter_42 ?_
        refine g_puti X hK.1 fw_OF_67 pw_OF_8 ly_0 rfl dOF_letter_43 ?_
        refine g_topM (fun M4 eM4 => ?_)
        have h := h M4 eM4
        refine g_iconst X (v := (1 : Int32)) dOF_letter_46 (by decide) ?_
        exact g_zret X hr hlk (by decide) dOF_letter_47 ⟨true, rfl, h⟩
      · have h := h.2 c
        refine g_iconst X (v := (0 : Int32)) dOF_letter_23 (by decide) ?_
        exact g_zret X hr hlk (by decide) dOF_letter_24 ⟨false, rfl, h⟩
set_option maxRecDepth 100000 in
set_option maxHeartbeats 4000000 in
theorem m_OF_isBindOrType {l : Launch} {D : va_G} {ta : Nat → ClassId} {base : Nat} {sa : Nat → Nat} {post : Bool → gMem → Prop} {a0 : Int32} {M : gMem} (h : wp_OF_isBindOrType post a0 M) : GC gLay gCl D ta base gNw sa gTabs gTs l y_OF_isBindOrType b_OF_isBindOrType 1 (some .boolean) 0 0 [.int a0] M (gPz post) := by
  refine GC.of (own := "ObjectFile") pn_OF rfl (Nat.le_of_ble_eq_true rfl) ?_
  intro p e s m below meth c X hK hr hlk
  refine g_args (L' := [(0, .int a0)]) rfl ?_
  unfold wp_OF_isBindOrType at h
  refine g_iload_n X dOF_isBindOrType_0 rfl 0 rfl ?_
  refine g_if_lt X dOF_isBindOrType_1 (fun c => ?_) (fun c => ?_)
  · have h := h.1 c
    refine g_iconst X (v := (0 : Int32)) dOF_isBindOrType_13 (by decide) ?_
    exact g_zret X hr hlk (by decide) dOF_isBindOrType_14 ⟨false, rfl, h⟩
  · have h := h.2 c
    refine g_iload_n X dOF_isBindOrType_4 rfl 0 rfl ?_
    refine g_iconst X (v := (2 : Int32)) dOF_isBindOrType_5 (by decide) ?_
    refine g_icmp_gt X dOF_isBindOrType_6 (fun c => ?_) (fun c => ?_)
    · have h := h.1 c
      refine g_iconst X (v := (0 : Int32)) dOF_isBindOrType_13 (by decide) ?_
      exact g_zret X hr hlk (by decide) dOF_isBindOrType_14 ⟨false, rfl, h⟩
    · have h := h.2 c
      refine g_iconst X (v := (1 : Int32)) dOF_isBindOrType_9 (by decide) ?_
      refine g_goto X dOF_isBindOrType_10 ?_
      exact g_zret X hr hlk (by decide) dOF_isBindOrType_14 ⟨true, rfl, h⟩
set_option maxRecDepth 100000 in
set_option maxHeartbeats 4000000 in
theorem m_OF_firstFlaw {l : Launch} {D : va_G} {ta : Nat → ClassId} {base : Nat} {sa : Nat → Nat} {post : Int32 → gMem → Prop} {a0 : Int32} {a1 : Int32} {a2 : Int32} {M : gMem} (h : wp_OF_firstFlaw post a0 a1 a2 M) : GC gLay gCl D ta base gNw sa gTabs gTs l y_OF_firstFlaw b_OF_firstFlaw 3 (some .int) 0 0 [.int a0, .int a1, .int a2] M (gPi post) := by
  refine GC.of (own := "ObjectFile") pn_OF rfl (Nat.le_of_ble_eq_true rfl) ?_
  intro p e s m below meth c X hK hr hlk
  refine g_args (L' := [(0, .int a0), (1, .int a1), (2, .int a2)]) rfl ?_
  unfold wp_OF_firstFlaw at h
  refine g_iload_n X dOF_firstFlaw_0 rfl 0 rfl ?_
  refine g_if_ne X dOF_firstFlaw_1 (fun c => ?_) (fun c => ?_)
  · have h := h.1 c
    refine g_iload_n X dOF_firstFlaw_6 rfl 1 rfl ?_
    refine g_if_ne X dOF_firstFlaw_7 (fun c => ?_) (fun c => ?_)
    · have h := h.1 c
      refine g_iload_n X dOF_firstFlaw_12 rfl 2 rfl ?_
      refine g_if_eq X dOF_firstFlaw_13 (fun c => ?_) (fun c => ?_)
      · have h := h.1 c
        refine g_iconst X (v := (3 : Int32)) dOF_firstFlaw_20 (by decide) ?_
        exact g_iret X hr hlk dOF_firstFlaw_21 ⟨_, rfl, h⟩
      · have h := h.2 c
        refine g_iconst X (v := (-1 : Int32)) dOF_firstFlaw_16 (by decide) ?_
        refine g_goto X dOF_firstFlaw_17 ?_
        exact g_iret X hr hlk dOF_firstFlaw_21 ⟨_, rfl, h⟩
    · have h := h.2 c
      refine g_iconst X (v := (2 : Int32)) dOF_firstFlaw_10 (by decide) ?_
      exact g_iret X hr hlk dOF_firstFlaw_11 ⟨_, rfl, h⟩
  · have h := h.2 c
    refine g_iconst X (v := (1 : Int32)) dOF_firstFlaw_4 (by decide) ?_
    exact g_iret X hr hlk dOF_firstFlaw_5 ⟨_, rfl, h⟩
set_option maxRecDepth 100000 in
set_option maxHeartbeats 4000000 in
theorem m_OF_isAlignment {l : Launch} {D : va_G} {ta : Nat → ClassId} {base : Nat} {sa : Nat → Nat} {post : Bool → gMem → Prop} {a0 : Int64} {M : gMem} (h : wp_OF_isAlignment post a0 M) : GC gLay gCl D ta base gNw sa gTabs gTs l y_OF_isAlignment b_OF_isAlignment 2 (some .boolean) 0 0 [.long a0] M (gPz post) := by
  refine GC.of (own := "ObjectFile") pn_OF rfl (Nat.le_of_ble_eq_true rfl) ?_
  intro p e s m below meth c X hK hr hlk
  refine g_args (L' := [(0, .long a0)]) rfl ?_
  unfold wp_OF_isAlignment at h
  refine g_lload_n X dOF_isAlignment_0 rfl 0 rfl ?_
  refine g_lconst X (v := (1 : Int64)) dOF_isAlignment_1 (by decide) ?_
  refine g_lif_lt X dOF_isAlignment_2 dOF_isAlignment_3 (fun c => ?_) (fun c => ?_)
  · have h := h.1 c
    refine g_iconst X (v := (0 : Int32)) dOF_isAlignment_28 (by decide) ?_
    exact g_zret X hr hlk (by decide) dOF_isAlignment_29 ⟨false, rfl, h⟩
  · have h := h.2 c
    refine g_lload_n X dOF_isAlignment_6 rfl 0 rfl ?_
    refine g_ldc2 X (v := (64 : Int64)) (tw_328) dOF_isAlignment_7 ?_
    refine g_lif_gt X dOF_isAlignment_10 dOF_isAlignment_11 (fun c => ?_) (fun c => ?_)
    · have h := h.1 c
      refine g_iconst X (v := (0 : Int32)) dOF_isAlignment_28 (by decide) ?_
      exact g_zret X hr hlk (by decide) dOF_isAlignment_29 ⟨false, rfl, h⟩
    · have h := h.2 c
      refine g_lload_n X dOF_isAlignment_14 rfl 0 rfl ?_
      refine g_lload_n X dOF_isAlignment_15 rfl 0 rfl ?_
      refine g_lconst X (v := (1 : Int64)) dOF_isAlignment_16 (by decide) ?_
      refine g_lsub X dOF_isAlignment_17 ?_
      refine g_land X dOF_isAlignment_18 ?_
      refine g_lconst X (v := (0 : Int64)) dOF_isAlignment_19 (by decide) ?_
      refine g_lif_ne X dOF_isAlignment_20 dOF_isAlignment_21 (fun c => ?_) (fun c => ?_)
      · have h := h.1 c
        refine g_iconst X (v := (0 : Int32)) dOF_isAlignment_28 (by decide) ?_
        exact g_zret X hr hlk (by decide) dOF_isAlignment_29 ⟨false, rfl, h⟩
      · have h := h.2 c
        refine g_iconst X (v := (1 : Int32)) dOF_isAlignment_24 (by decide) ?_
        refine g_goto X dOF_isAlignment_25 ?_
        exact g_zret X hr hlk (by decide) dOF_isAlignment_29 ⟨true, rfl, h⟩
set_option maxRecDepth 100000 in
set_option maxHeartbeats 4000000 in
theorem m_OF_flawOf {l : Launch} {D : va_G} {ta : Nat → ClassId} {base : Nat} {sa : Nat → Nat} {post : Int32 → gMem → Prop} {a0 : Int32} {a1 : Int32} {a2 : Int32} {a3 : Int32} {a4 : Int64} {M : gMem} (h : wp_OF_flawOf post a0 a1 a2 a3 a4 M) : GC gLay gCl D ta base gNw sa gTabs gTs l y_OF_flawOf b_OF_flawOf 6 (some .int) 1 22 [.int a0, .int a1, .int a2, .int a3, .long a4] M (gPi post) := by
  refine GC.of (own := "ObjectFile") pn_OF rfl (Nat.le_of_ble_eq_true rfl) ?_
  intro p e s m below meth c X hK hr hlk
  have r_54 : ∀ (v3 : Int32) (s0 : Int32) (s1 : Int32) (M : gMem), wj_OF_flawOf_54 post v3 s0 s1 M → GMx D ta base p l e 1 22 s m [.int a0, .int a1, .int a2, .int a3, .long a4] below meth c (gPi post) 6 54 [(3, .int v3)] [.int s0, .int s1] M := by
    intro v3 s0 s1 M h
    unfold wj_OF_flawOf_54 at h
    refine g_iload_n X dOF_flawOf_54 rfl 0 rfl ?_
    refine g_if_eq X dOF_flawOf_55 (fun c => ?_) (fun c => ?_)
    · have h := h.1 c
      refine g_iconst X (v := (0 : Int32)) dOF_flawOf_62 (by decide) ?_
      refine g_callS X hK gTs_ok mw_OF_firstFlaw tw_322 mt_OF_firstFlaw (As := [.int s1, .int s0, .int (0 : Int32)]) rfl ⟨(Nat.le_of_ble_eq_true rfl), (Nat.le_of_ble_eq_true rfl), Nat.le_refl _, Nat.le_refl _⟩ (m_OF_firstFlaw h) (rest := []) rfl (Nat.le_of_ble_eq_true rfl) dOF_flawOf_63 (gk_i (fun r1 M2 h => ?_))
      exact g_iret X hr hlk dOF_flawOf_66 ⟨_, rfl, h⟩
    · have h := h.2 c
      refine g_iconst X (v := (1 : Int32)) dOF_flawOf_58 (by decide) ?_
      refine g_goto X dOF_flawOf_59 ?_
      refine g_callS X hK gTs_ok mw_OF_firstFlaw tw_322 mt_OF_firstFlaw (As := [.int s1, .int s0, .int (1 : Int32)]) rfl ⟨(Nat.le_of_ble_eq_true rfl), (Nat.le_of_ble_eq_true rfl), Nat.le_refl _, Nat.le_refl _⟩ (m_OF_firstFlaw h) (rest := []) rfl (Nat.le_of_ble_eq_true rfl) dOF_flawOf_63 (gk_i (fun r3 M4 h => ?_))
      exact g_iret X hr hlk dOF_flawOf_66 ⟨_, rfl, h⟩
  have r_45 : ∀ (v2 : Int32) (v3 : Int32) (s0 : Int32) (M : gMem), wj_OF_flawOf_45 post v2 v3 s0 M → GMx D ta base p l e 1 22 s m [.int a0, .int a1, .int a2, .int a3, .long a4] below meth c (gPi post) 6 45 [(2, .int v2), (3, .int v3)] [.int s0] M := by
    intro v2 v3 s0 M h
    unfold wj_OF_flawOf_45 at h
    refine g_iload_n X dOF_flawOf_45 rfl 0 rfl ?_
    refine g_if_ne X dOF_flawOf_46 (fun c => ?_) (fun c => ?_)
    · have h := h.1 c
      refine g_iconst X (v := (0 : Int32)) dOF_flawOf_53 (by decide) ?_
      refine g_sub (L' := [(3, .int v3)]) [1] rfl ?_
      exact r_54 v3 (0 : Int32) s0 M h
    · have h := h.2 c
      refine g_iconst X (v := (1 : Int32)) dOF_flawOf_49 (by decide) ?_
      refine g_goto X dOF_flawOf_50 ?_
      refine g_sub (L' := [(3, .int v3)]) [1] rfl ?_
      exact r_54 v3 (1 : Int32) s0 M h
  have r_104 : ∀ (v3 : Int32) (s0 : Int32) (s1 : Int32) (M : gMem), wj_OF_flawOf_104 post v3 s0 s1 M → GMx D ta base p l e 1 22 s m [.int a0, .int a1, .int a2, .int a3, .long a4] below meth c (gPi post) 6 104 [(3, .int v3)] [.int s0, .int s1] M := by
    intro v3 s0 s1 M h
    unfold wj_OF_flawOf_104 at h
    refine g_iload_n X dOF_flawOf_104 rfl 0 rfl ?_
    refine g_iconst X (v := (1 : Int32)) dOF_flawOf_105 (by decide) ?_
    refine g_icmp_ne X dOF_flawOf_106 (fun c => ?_) (fun c => ?_)
    · have h := h.1 c
      refine g_iconst X (v := (0 : Int32)) dOF_flawOf_113 (by decide) ?_
      refine g_callS X hK gTs_ok mw_OF_firstFlaw tw_322 mt_OF_firstFlaw (As := [.int s1, .int s0, .int (0 : Int32)]) rfl ⟨(Nat.le_of_ble_eq_true rfl), (Nat.le_of_ble_eq_true rfl), Nat.le_refl _, Nat.le_refl _⟩ (m_OF_firstFlaw h) (rest := []) rfl (Nat.le_of_ble_eq_true rfl) dOF_flawOf_114 (gk_i (fun r11 M12 h => ?_))
      exact g_iret X hr hlk dOF_flawOf_117 ⟨_, rfl, h⟩
    · have h := h.2 c
      refine g_iconst X (v := (1 : Int32)) dOF_flawOf_109 (by decide) ?_
      refine g_goto X dOF_flawOf_110 ?_
      refine g_callS X hK gTs_ok mw_OF_firstFlaw tw_322 mt_OF_firstFlaw (As := [.int s1, .int s0, .int (1 : Int32)]) rfl ⟨(Nat.le_of_ble_eq_true rfl), (Nat.le_of_ble_eq_true rfl), Nat.le_refl _, Nat.le_refl _⟩ (m_OF_firstFlaw h) (rest := []) rfl (Nat.le_of_ble_eq_true rfl) dOF_flawOf_114 (gk_i (fun r13 M14 h => ?_))
      exact g_iret X hr hlk dOF_flawOf_117 ⟨_, rfl, h⟩
  have r_103 : ∀ (v3 : Int32) (s0 : Int32) (M : gMem), wj_OF_flawOf_103 post v3 s0 M → GMx D ta base p l e 1 22 s m [.int a0, .int a1, .int a2, .int a3, .long a4] below meth c (gPi post) 6 103 [(3, .int v3)] [.int s0] M := by
    intro v3 s0 M h
    unfold wj_OF_flawOf_103 at h
    refine g_iconst X (v := (0 : Int32)) dOF_flawOf_103 (by decide) ?_
    exact r_104 v3 (0 : Int32) s0 M h
  have r_135 : ∀ (v1 : Int32) (v2 : Int32) (v4 : Int64) (s0 : Int32) (M : gMem), wj_OF_flawOf_135 post v1 v2 v4 s0 M → GMx D ta base p l e 1 22 s m [.int a0, .int a1, .int a2, .int a3, .long a4] below meth c (gPi post) 6 135 [(1, .int v1), (2, .int v2), (4, .long v4)] [.int s0] M := by
    intro v1 v2 v4 s0 M h
    unfold wj_OF_flawOf_135 at h
    refine g_iload_n X dOF_flawOf_135 rfl 1 rfl ?_
    refine g_if_lt X dOF_flawOf_136 (fun c => ?_) (fun c => ?_)
    · have h := h.1 c
      refine g_iconst X (v := (0 : Int32)) dOF_flawOf_154 (by decide) ?_
      refine g_iconst X (v := (1 : Int32)) dOF_flawOf_155 (by decide) ?_
      refine g_callS X hK gTs_ok mw_OF_firstFlaw tw_322 mt_OF_firstFlaw (As := [.int s0, .int (0 : Int32), .int (1 : Int32)]) rfl ⟨(Nat.le_of_ble_eq_true rfl), (Nat.le_of_ble_eq_true rfl), Nat.le_refl _, Nat.le_refl _⟩ (m_OF_firstFlaw h) (rest := []) rfl (Nat.le_of_ble_eq_true rfl) dOF_flawOf_156 (gk_i (fun r15 M16 h => ?_))
      exact g_iret X hr hlk dOF_flawOf_159 ⟨_, rfl, h⟩
    · have h := h.2 c
      refine g_iload_n X dOF_flawOf_139 rfl 0 rfl ?_
      refine g_i2l X dOF_flawOf_140 rfl ?_
      refine g_iload_n X dOF_flawOf_141 rfl 1 rfl ?_
      refine g_i2l X dOF_flawOf_142 rfl ?_
      refine g_ladd X dOF_flawOf_143 ?_
      refine g_lload X dOF_flawOf_144 2 rfl ?_
      refine g_lif_gt X dOF_flawOf_146 dOF_flawOf_147 (fun c => ?_) (fun c => ?_)
      · have h := h.1 c
        refine g_iconst X (v := (0 : Int32)) dOF_flawOf_154 (by decide) ?_
        refine g_iconst X (v := (1 : Int32)) dOF_flawOf_155 (by decide) ?_
        refine g_callS X hK gTs_ok mw_OF_firstFlaw tw_322 mt_OF_firstFlaw (As := [.int s0, .int (0 : Int32), .int (1 : Int32)]) rfl ⟨(Nat.le_of_ble_eq_true rfl), (Nat.le_of_ble_eq_true rfl), Nat.le_refl _, Nat.le_refl _⟩ (m_OF_firstFlaw h) (rest := []) rfl (Nat.le_of_ble_eq_true rfl) dOF_flawOf_156 (gk_i (fun r17 M18 h => ?_))
        exact g_iret X hr hlk dOF_flawOf_159 ⟨_, rfl, h⟩
      · have h := h.2 c
        refine g_iconst X (v := (1 : Int32)) dOF_flawOf_150 (by decide) ?_
        refine g_goto X dOF_flawOf_151 ?_
        refine g_iconst X (v := (1 : Int32)) dOF_flawOf_155 (by decide) ?_
        refine g_callS X hK gTs_ok mw_OF_firstFlaw tw_322 mt_OF_firstFlaw (As := [.int s0, .int (1 : Int32), .int (1 : Int32)]) rfl ⟨(Nat.le_of_ble_eq_true rfl), (Nat.le_of_ble_eq_true rfl), Nat.le_refl _, Nat.le_refl _⟩ (m_OF_firstFlaw h) (rest := []) rfl (Nat.le_of_ble_eq_true rfl) dOF_flawOf_156 (gk_i (fun r19 M20 h => ?_))
        exact g_iret X hr hlk dOF_flawOf_159 ⟨_, rfl, h⟩
  have r_134 : ∀ (v1 : Int32) (v2 : Int32) (v4 : Int64) (M : gMem), wj_OF_flawOf_134 post v1 v2 v4 M → GMx D ta base p l e 1 22 s m [.int a0, .int a1, .int a2, .int a3, .long a4] below meth c (gPi post) 6 134 [(1, .int v1), (2, .int v2), (4, .long v4)] [] M := by
    intro v1 v2 v4 M h
    unfold wj_OF_flawOf_134 at h
    refine g_iconst X (v := (0 : Int32)) dOF_flawOf_134 (by decide) ?_
    exact r_135 v1 v2 v4 (0 : Int32) M h
  refine g_args (L' := [(0, .int a0), (1, .int a1), (2, .int a2), (3, .int a3), (4, .long a4)]) rfl ?_
  unfold wp_OF_flawOf at h
  refine g_iload_n X dOF_flawOf_0 rfl 0 rfl ?_
  refine g_lookup X (dt := 118) [((-1 : Int32), 36), ((4 : Int32), 67), ((5 : Int32), 82)] dOF_flawOf_1.1 (by decide +kernel) (by decide +kernel) (by decide) ?_
  refine gSw_cons (fun c => ?_) (fun c => ?_)
  · have h := h.1 c
    refine g_iload_n X dOF_flawOf_36 rfl 1 rfl ?_
    refine g_if_ne X dOF_flawOf_37 (fun c => ?_) (fun c => ?_)
    · have h := h.1 c
      refine g_iconst X (v := (0 : Int32)) dOF_flawOf_44 (by decide) ?_
      refine g_sub (L' := [(2, .int a2), (3, .int a3)]) [2, 3] rfl ?_
      exact r_45 a2 a3 (0 : Int32) M h
    · have h := h.2 c
      refine g_iconst X (v := (1 : Int32)) dOF_flawOf_40 (by decide) ?_
      refine g_goto X dOF_flawOf_41 ?_
      refine g_sub (L' := [(2, .int a2), (3, .int a3)]) [2, 3] rfl ?_
      exact r_45 a2 a3 (1 : Int32) M h
  · have h := h.2 c
    refine gSw_cons (fun c => ?_) (fun c => ?_)
    · have h := h.1 c
      refine g_iconst X (v := (1 : Int32)) dOF_flawOf_67 (by decide) ?_
      refine g_iload_n X dOF_flawOf_68 rfl 2 rfl ?_
      refine g_if_lt X dOF_flawOf_69 (fun c => ?_) (fun c => ?_)
      · have h := h.1 c
        refine g_iconst X (v := (0 : Int32)) dOF_flawOf_76 (by decide) ?_
        refine g_iconst X (v := (1 : Int32)) dOF_flawOf_77 (by decide) ?_
        refine g_callS X hK gTs_ok mw_OF_firstFlaw tw_322 mt_OF_firstFlaw (As := [.int (1 : Int32), .int (0 : Int32), .int (1 : Int32)]) rfl ⟨(Nat.le_of_ble_eq_true rfl), (Nat.le_of_ble_eq_true rfl), Nat.le_refl _, Nat.le_refl _⟩ (m_OF_firstFlaw h) (rest := []) rfl (Nat.le_of_ble_eq_true rfl) dOF_flawOf_78 (gk_i (fun r5 M6 h => ?_))
        exact g_iret X hr hlk dOF_flawOf_81 ⟨_, rfl, h⟩
      · have h := h.2 c
        refine g_iconst X (v := (1 : Int32)) dOF_flawOf_72 (by decide) ?_
        refine g_goto X dOF_flawOf_73 ?_
        refine g_iconst X (v := (1 : Int32)) dOF_flawOf_77 (by decide) ?_
        refine g_callS X hK gTs_ok mw_OF_firstFlaw tw_322 mt_OF_firstFlaw (As := [.int (1 : Int32), .int (1 : Int32), .int (1 : Int32)]) rfl ⟨(Nat.le_of_ble_eq_true rfl), (Nat.le_of_ble_eq_true rfl), Nat.le_refl _, Nat.le_refl _⟩ (m_OF_firstFlaw h) (rest := []) rfl (Nat.le_of_ble_eq_true rfl) dOF_flawOf_78 (gk_i (fun r7 M8 h => ?_))
        exact g_iret X hr hlk dOF_flawOf_81 ⟨_, rfl, h⟩
    · have h := h.2 c
      refine gSw_cons (fun c => ?_) (fun c => ?_)
      · have h := h.1 c
        refine g_iload_n X dOF_flawOf_82 rfl 1 rfl ?_
        refine g_i2l X dOF_flawOf_83 rfl ?_
        refine g_callS X hK gTs_ok mw_OF_isAlignment tw_325 mt_OF_isAlignment (As := [.long (a1.toInt64)]) rfl ⟨(Nat.le_of_ble_eq_true rfl), (Nat.le_of_ble_eq_true rfl), Nat.le_refl _, Nat.le_refl _⟩ (m_OF_isAlignment h) (rest := []) rfl (Nat.le_of_ble_eq_true rfl) dOF_flawOf_84 (gk_z (fun r9 M10 h => ?_))
        refine g_iload_n X dOF_flawOf_87 rfl 2 rfl ?_
        refine g_iconst X (v := (1 : Int32)) dOF_flawOf_88 (by decide) ?_
        refine g_icmp_lt X dOF_flawOf_89 (fun c => ?_) (fun c => ?_)
        · have h := h.1 c
          refine g_sub (L' := [(3, .int a3)]) [3] rfl ?_
          exact r_103 a3 (bI r9) M10 h
        · have h := h.2 c
          refine g_iload_n X dOF_flawOf_92 rfl 2 rfl ?_
          refine g_sipush X (v := (4096 : Int32)) dOF_flawOf_93 (by decide) ?_
          refine g_icmp_gt X dOF_flawOf_96 (fun c => ?_) (fun c => ?_)
          · have h := h.1 c
            refine g_sub (L' := [(3, .int a3)]) [3] rfl ?_
            exact r_103 a3 (bI r9) M10 h
          · have h := h.2 c
            refine g_iconst X (v := (1 : Int32)) dOF_flawOf_99 (by decide) ?_
            refine g_goto X dOF_flawOf_100 ?_
            refine g_sub (L' := [(3, .int a3)]) [3] rfl ?_
            exact r_104 a3 (1 : Int32) (bI r9) M10 h
      · have h := h.2 c
        refine gSw_nil ?_
        refine g_iload_n X dOF_flawOf_118 rfl 1 rfl ?_
        refine g_if_lt X dOF_flawOf_119 (fun c => ?_) (fun c => ?_)
        · have h := h.1 c
          refine g_sub (L' := [(1, .int a1), (2, .int a2), (4, .long a4)]) [1, 2, 4] rfl ?_
          exact r_134 a1 a2 a4 M h
        · have h := h.2 c
          refine g_iload_n X dOF_flawOf_122 rfl 1 rfl ?_
          refine g_i2l X dOF_flawOf_123 rfl ?_
          refine g_lload X dOF_flawOf_124 4 rfl ?_
          refine g_lif_gt X dOF_flawOf_126 dOF_flawOf_127 (fun c => ?_) (fun c => ?_)
          · have h := h.1 c
            refine g_sub (L' := [(1, .int a1), (2, .int a2), (4, .long a4)]) [1, 2, 4] rfl ?_
            exact r_134 a1 a2 a4 M h
          · have h := h.2 c
            refine g_iconst X (v := (1 : Int32)) dOF_flawOf_130 (by decide) ?_
            refine g_goto X dOF_flawOf_131 ?_
            refine g_sub (L' := [(1, .int a1), (2, .int a2), (4, .long a4)]) [1, 2, 4] rfl ?_
            exact r_135 a1 a2 a4 (1 : Int32) M h
set_option maxRecDepth 100000 in
set_option maxHeartbeats 4000000 in
theorem m_CT_addSymbol_m_40 {l : Launch} {D : va_G} {ta : Nat → ClassId} {base : Nat} {sa : Nat → Nat} {post : Int32 → gMem → Prop} {a1 : Int32} {a2 : Int32} {M : gMem} (h : wp_CT_addSymbol_m_40 post a1 a2 M) : GC gLay gCl D ta base gNw sa gTabs gTs l y_CT_addSymbol b_CT_addSymbol 5 (some .int) 1 18 [.ref (base + 1), .ref (base + 40), .int a1, .int a2] M (gPi post) := by
  refine GC.of (own := "ObjectFile$Contents") pn_CT rfl (Nat.le_of_ble_eq_true rfl) ?_
  intro p e s m below meth c X hK hr hlk
  refine g_args (L' := [(0, .ref (base + 1)), (1, .ref (base + 40)), (2, .int a1), (3, .int a2)]) rfl ?_
  unfold wp_CT_addSymbol_m_40 at h
  refine g_aload_n X dCT_addSymbol_0 rfl 0 rfl ?_
  refine g_geti X hK.1 fw_CT_44 ly_1 rfl dCT_addSymbol_1 ?_
  refine g_if_lt X dCT_addSymbol_4 (fun c => ?_) (fun c => ?_)
  · have h := h.1 c
    refine g_iconst X (v := (-1 : Int32)) dCT_addSymbol_27 (by decide) ?_
    exact g_iret X hr hlk dCT_addSymbol_28 ⟨_, rfl, h⟩
  · have h := h.2 c
    refine g_aload_n X dCT_addSymbol_7 rfl 0 rfl ?_
    refine g_geti X hK.1 fw_CT_44 ly_1 rfl dCT_addSymbol_8 ?_
    refine g_bipush X (v := (100 : Int32)) dCT_addSymbol_11 (by decide) ?_
    refine g_icmp_ge X dCT_addSymbol_13 (fun c => ?_) (fun c => ?_)
    · have h := h.1 c
      refine g_iconst X (v := (-1 : Int32)) dCT_addSymbol_27 (by decide) ?_
      exact g_iret X hr hlk dCT_addSymbol_28 ⟨_, rfl, h⟩
    · have h := h.2 c
      refine g_iload_n X dCT_addSymbol_16 rfl 3 rfl ?_
      refine g_iconst X (v := (1 : Int32)) dCT_addSymbol_17 (by decide) ?_
      refine g_icmp_lt X dCT_addSymbol_18 (fun c => ?_) (fun c => ?_)
      · have h := h.1 c
        refine g_iconst X (v := (-1 : Int32)) dCT_addSymbol_27 (by decide) ?_
        exact g_iret X hr hlk dCT_addSymbol_28 ⟨_, rfl, h⟩
      · have h := h.2 c
        refine g_iload_n X dCT_addSymbol_21 rfl 3 rfl ?_
        refine g_bipush X (v := (16 : Int32)) dCT_addSymbol_22 (by decide) ?_
        refine g_icmp_le X dCT_addSymbol_24 (fun c => ?_) (fun c => ?_)
        · have h := h.1 c
          refine g_iload_n X dCT_addSymbol_29 rfl 2 rfl ?_
          refine g_if_lt X dCT_addSymbol_30 (fun c => ?_) (fun c => ?_)
          · have h := h.1 c
            refine g_iconst X (v := (-1 : Int32)) dCT_addSymbol_41 (by decide) ?_
            exact g_iret X hr hlk dCT_addSymbol_42 ⟨_, rfl, h⟩
          · have h := h.2 c
            refine g_iload_n X dCT_addSymbol_33 rfl 2 rfl ?_
            refine g_aload_n X dCT_addSymbol_34 rfl 1 rfl ?_
            refine g_alen X hK.1 ly_40 (by decide) (v := (16 : Int32)) (by decide) dCT_addSymbol_35 ?_
            refine g_iload_n X dCT_addSymbol_36 rfl 3 rfl ?_
            refine g_isub X dCT_addSymbol_37 ?_
            refine g_icmp_le X dCT_addSymbol_38 (fun c => ?_) (fun c => ?_)
            · have h := h.1 c
              refine g_aload_n X dCT_addSymbol_43 rfl 0 rfl ?_
              refine g_geti X hK.1 fw_CT_44 ly_1 rfl dCT_addSymbol_44 ?_
              refine g_topi (fun x1 ex1 => ?_)
              have h := h x1 ex1
              refine g_istore X (L' := [(4, .int x1), (0, .ref (base + 1)), (1, .ref (base + 40)), (2, .int a1), (3, .int a2)]) dCT_addSymbol_47 (Nat.le_of_ble_eq_true rfl) rfl ?_
              refine g_aload_n X dCT_addSymbol_49 rfl 1 rfl ?_
              refine g_dup X dCT_addSymbol_50 rfl ?_
              refine g_geti X hK.1 fw_CT_44 ly_1 rfl dCT_addSymbol_51 ?_
              refine g_iconst X (v := (1 : Int32)) dCT_addSymbol_54 (by decide) ?_
              refine g_iadd X dCT_addSymbol_55 ?_
              refine g_puti X hK.1 fw_CT_44 pw_CT_7 ly_1 rfl dCT_addSymbol_56 ?_
              refine g_topM (fun M2 eM2 => ?_)
              have h := h M2 eM2
              refine g_aload_n X dCT_addSymbol_59 rfl 2 rfl ?_
              refine g_iload_n X dCT_addSymbol_60 rfl 3 rfl ?_
              refine g_aload_n X dCT_addSymbol_61 rfl 1 rfl ?_
              refine g_getr X hK.1 fw_CT_28 ly_1 rfl dCT_addSymbol_62 ?_
              refine g_iload X dCT_addSymbol_65 0 rfl ?_
              refine g_bipush X (v := (16 : Int32)) dCT_addSymbol_67 (by decide) ?_
              refine g_imul X dCT_addSymbol_69 ?_
              refine g_iload_n X dCT_addSymbol_70 rfl 4 rfl ?_
              obtain ⟨q1, q2, q3, q4, q5, q6, h⟩ := h
              refine g_copyb X hK.1 tw_349 tw_351 tw_350 tw_11 ly_40 ly_7 q1 q2 q3 q4 q5 q6 (Nat.le_of_ble_eq_true rfl) (Nat.le_of_ble_eq_true rfl) dCT_addSymbol_71 ?_
              refine g_topM (fun M3 eM3 => ?_)
              have h := h M3 eM3
              refine g_aload_n X dCT_addSymbol_74 rfl 1 rfl ?_
              refine g_getr X hK.1 fw_CT_25 ly_1 rfl dCT_addSymbol_75 ?_
              refine g_iload X dCT_addSymbol_78 0 rfl ?_
              refine g_bipush X (v := (6 : Int32)) dCT_addSymbol_80 (by decide) ?_
              refine g_imul X dCT_addSymbol_82 ?_
              refine g_iconst X (v := (5 : Int32)) dCT_addSymbol_83 (by decide) ?_
              refine g_iadd X dCT_addSymbol_84 ?_
              refine g_iload_n X dCT_addSymbol_85 rfl 4 rfl ?_
              obtain ⟨hi, h⟩ := h
              refine g_iast X hK.1 ly_6 hi dCT_addSymbol_86 ?_
              refine g_topM (fun M4 eM4 => ?_)
              have h := h M4 eM4
              refine g_iload X dCT_addSymbol_87 0 rfl ?_
              exact g_iret X hr hlk dCT_addSymbol_89 ⟨_, rfl, h⟩
            · have h := h.2 c
              refine g_iconst X (v := (-1 : Int32)) dCT_addSymbol_41 (by decide) ?_
              exact g_iret X hr hlk dCT_addSymbol_42 ⟨_, rfl, h⟩
        · have h := h.2 c
          refine g_iconst X (v := (-1 : Int32)) dCT_addSymbol_27 (by decide) ?_
          exact g_iret X hr hlk dCT_addSymbol_28 ⟨_, rfl, h⟩
set_option maxRecDepth 100000 in
set_option maxHeartbeats 4000000 in
theorem m_CT_tellSymbol_m {l : Launch} {D : va_G} {ta : Nat → ClassId} {base : Nat} {sa : Nat → Nat} {post : gMem → Prop} {a0 : Int32} {a1 : Int32} {a2 : Int32} {a3 : Int32} {a4 : Int32} {a5 : Int32} {M : gMem} (h : wp_CT_tellSymbol_m post a0 a1 a2 a3 a4 a5 M) : GC gLay gCl D ta base gNw sa gTabs gTs l y_CT_tellSymbol b_CT_tellSymbol 8 none 0 0 [.ref (base + 1), .int a0, .int a1, .int a2, .int a3, .int a4, .int a5] M (gPv post) := by
  refine GC.of (own := "ObjectFile$Contents") pn_CT rfl (Nat.le_of_ble_eq_true rfl) ?_
  intro p e s m below meth c X hK hr hlk
  refine g_args (L' := [(0, .ref (base + 1)), (1, .int a0), (2, .int a1), (3, .int a2), (4, .int a3), (5, .int a4), (6, .int a5)]) rfl ?_
  unfold wp_CT_tellSymbol_m at h
  refine g_iload_n X dCT_tellSymbol_0 rfl 1 rfl ?_
  refine g_if_lt X dCT_tellSymbol_1 (fun c => ?_) (fun c => ?_)
  · have h := h.1 c
    exact g_vret X hr hlk dCT_tellSymbol_12 ⟨rfl, h⟩
  · have h := h.2 c
    refine g_iload_n X dCT_tellSymbol_4 rfl 1 rfl ?_
    refine g_aload_n X dCT_tellSymbol_5 rfl 0 rfl ?_
    refine g_geti X hK.1 fw_CT_44 ly_1 rfl dCT_tellSymbol_6 ?_
    refine g_icmp_lt X dCT_tellSymbol_9 (fun c => ?_) (fun c => ?_)
    · have h := h.1 c
      refine g_iload_n X dCT_tellSymbol_13 rfl 1 rfl ?_
      refine g_bipush X (v := (6 : Int32)) dCT_tellSymbol_14 (by decide) ?_
      refine g_imul X dCT_tellSymbol_16 ?_
      refine g_topi (fun x1 ex1 => ?_)
      have h := h x1 ex1
      refine g_istore X (L' := [(7, .int x1), (0, .ref (base + 1)), (1, .int a0), (2, .int a1), (3, .int a2), (4, .int a3), (5, .int a4), (6, .int a5)]) dCT_tellSymbol_17 (Nat.le_of_ble_eq_true rfl) rfl ?_
      refine g_aload_n X dCT_tellSymbol_19 rfl 1 rfl ?_
      refine g_getr X hK.1 fw_CT_25 ly_1 rfl dCT_tellSymbol_20 ?_
      refine g_iload X dCT_tellSymbol_23 0 rfl ?_
      refine g_iconst X (v := (0 : Int32)) dCT_tellSymbol_25 (by decide) ?_
      refine g_iadd X dCT_tellSymbol_26 ?_
      refine g_iload_n X dCT_tellSymbol_27 rfl 3 rfl ?_
      obtain ⟨hi, h⟩ := h
      refine g_iast X hK.1 ly_6 hi dCT_tellSymbol_28 ?_
      refine g_topM (fun M2 eM2 => ?_)
      have h := h M2 eM2
      refine g_aload_n X dCT_tellSymbol_29 rfl 1 rfl ?_
      refine g_getr X hK.1 fw_CT_25 ly_1 rfl dCT_tellSymbol_30 ?_
      refine g_iload X dCT_tellSymbol_33 0 rfl ?_
      refine g_iconst X (v := (1 : Int32)) dCT_tellSymbol_35 (by decide) ?_
      refine g_iadd X dCT_tellSymbol_36 ?_
      refine g_iload_n X dCT_tellSymbol_37 rfl 4 rfl ?_
      obtain ⟨hi, h⟩ := h
      refine g_iast X hK.1 ly_6 hi dCT_tellSymbol_38 ?_
      refine g_topM (fun M3 eM3 => ?_)
      have h := h M3 eM3
      refine g_aload_n X dCT_tellSymbol_39 rfl 1 rfl ?_
      refine g_getr X hK.1 fw_CT_25 ly_1 rfl dCT_tellSymbol_40 ?_
      refine g_iload X dCT_tellSymbol_43 0 rfl ?_
      refine g_iconst X (v := (2 : Int32)) dCT_tellSymbol_45 (by decide) ?_
      refine g_iadd X dCT_tellSymbol_46 ?_
      refine g_iload X dCT_tellSymbol_47 5 rfl ?_
      obtain ⟨hi, h⟩ := h
      refine g_iast X hK.1 ly_6 hi dCT_tellSymbol_49 ?_
      refine g_topM (fun M4 eM4 => ?_)
      have h := h M4 eM4
      refine g_aload_n X dCT_tellSymbol_50 rfl 1 rfl ?_
      refine g_getr X hK.1 fw_CT_25 ly_1 rfl dCT_tellSymbol_51 ?_
      refine g_iload X dCT_tellSymbol_54 0 rfl ?_
      refine g_iconst X (v := (3 : Int32)) dCT_tellSymbol_56 (by decide) ?_
      refine g_iadd X dCT_tellSymbol_57 ?_
      refine g_iload X dCT_tellSymbol_58 6 rfl ?_
      obtain ⟨hi, h⟩ := h
      refine g_iast X hK.1 ly_6 hi dCT_tellSymbol_60 ?_
      refine g_topM (fun M5 eM5 => ?_)
      have h := h M5 eM5
      refine g_aload_n X dCT_tellSymbol_61 rfl 1 rfl ?_
      refine g_getr X hK.1 fw_CT_25 ly_1 rfl dCT_tellSymbol_62 ?_
      refine g_iload X dCT_tellSymbol_65 0 rfl ?_
      refine g_iconst X (v := (4 : Int32)) dCT_tellSymbol_67 (by decide) ?_
      refine g_iadd X dCT_tellSymbol_68 ?_
      refine g_iload X dCT_tellSymbol_69 7 rfl ?_
      obtain ⟨hi, h⟩ := h
      refine g_iast X hK.1 ly_6 hi dCT_tellSymbol_71 ?_
      refine g_topM (fun M6 eM6 => ?_)
      have h := h M6 eM6
      exact g_vret X hr hlk dCT_tellSymbol_72 ⟨rfl, h⟩
    · have h := h.2 c
      exact g_vret X hr hlk dCT_tellSymbol_12 ⟨rfl, h⟩
set_option maxRecDepth 100000 in
set_option maxHeartbeats 4000000 in
theorem m_CT_symbolFact_m {l : Launch} {D : va_G} {ta : Nat → ClassId} {base : Nat} {sa : Nat → Nat} {post : Int32 → gMem → Prop} {a0 : Int32} {a1 : Int32} {M : gMem} (h : wp_CT_symbolFact_m post a0 a1 M) : GC gLay gCl D ta base gNw sa gTabs gTs l y_CT_symbolFact b_CT_symbolFact 3 (some .int) 0 0 [.ref (base + 1), .int a0, .int a1] M (gPi post) := by
  refine GC.of (own := "ObjectFile$Contents") pn_CT rfl (Nat.le_of_ble_eq_true rfl) ?_
  intro p e s m below meth c X hK hr hlk
  refine g_args (L' := [(0, .ref (base + 1)), (1, .int a0), (2, .int a1)]) rfl ?_
  unfold wp_CT_symbolFact_m at h
  refine g_iload_n X dCT_symbolFact_0 rfl 1 rfl ?_
  refine g_if_lt X dCT_symbolFact_1 (fun c => ?_) (fun c => ?_)
  · have h := h.1 c
    refine g_iconst X (v := (-1 : Int32)) dCT_symbolFact_22 (by decide) ?_
    exact g_iret X hr hlk dCT_symbolFact_23 ⟨_, rfl, h⟩
  · have h := h.2 c
    refine g_iload_n X dCT_symbolFact_4 rfl 1 rfl ?_
    refine g_aload_n X dCT_symbolFact_5 rfl 0 rfl ?_
    refine g_geti X hK.1 fw_CT_44 ly_1 rfl dCT_symbolFact_6 ?_
    refine g_icmp_ge X dCT_symbolFact_9 (fun c => ?_) (fun c => ?_)
    · have h := h.1 c
      refine g_iconst X (v := (-1 : Int32)) dCT_symbolFact_22 (by decide) ?_
      exact g_iret X hr hlk dCT_symbolFact_23 ⟨_, rfl, h⟩
    · have h := h.2 c
      refine g_iload_n X dCT_symbolFact_12 rfl 2 rfl ?_
      refine g_if_lt X dCT_symbolFact_13 (fun c => ?_) (fun c => ?_)
      · have h := h.1 c
        refine g_iconst X (v := (-1 : Int32)) dCT_symbolFact_22 (by decide) ?_
        exact g_iret X hr hlk dCT_symbolFact_23 ⟨_, rfl, h⟩
      · have h := h.2 c
        refine g_iload_n X dCT_symbolFact_16 rfl 2 rfl ?_
        refine g_bipush X (v := (6 : Int32)) dCT_symbolFact_17 (by decide) ?_
        refine g_icmp_lt X dCT_symbolFact_19 (fun c => ?_) (fun c => ?_)
        · have h := h.1 c
          refine g_aload_n X dCT_symbolFact_24 rfl 0 rfl ?_
          refine g_getr X hK.1 fw_CT_25 ly_1 rfl dCT_symbolFact_25 ?_
          refine g_iload_n X dCT_symbolFact_28 rfl 1 rfl ?_
          refine g_bipush X (v := (6 : Int32)) dCT_symbolFact_29 (by decide) ?_
          refine g_imul X dCT_symbolFact_31 ?_
          refine g_iload_n X dCT_symbolFact_32 rfl 2 rfl ?_
          refine g_iadd X dCT_symbolFact_33 ?_
          obtain ⟨hi, h⟩ := h
          refine g_iald X hK.1 ly_6 hi dCT_symbolFact_34 ?_
          exact g_iret X hr hlk dCT_symbolFact_35 ⟨_, rfl, h⟩
        · have h := h.2 c
          refine g_iconst X (v := (-1 : Int32)) dCT_symbolFact_22 (by decide) ?_
          exact g_iret X hr hlk dCT_symbolFact_23 ⟨_, rfl, h⟩
set_option maxRecDepth 100000 in
set_option maxHeartbeats 4000000 in
theorem m_CT_nameCharacter_m {l : Launch} {D : va_G} {ta : Nat → ClassId} {base : Nat} {sa : Nat → Nat} {post : Int32 → gMem → Prop} {a0 : Int32} {a1 : Int32} {M : gMem} (h : wp_CT_nameCharacter_m post a0 a1 M) : GC gLay gCl D ta base gNw sa gTabs gTs l y_CT_nameCharacter b_CT_nameCharacter 3 (some .int) 1 22 [.ref (base + 1), .int a0, .int a1] M (gPi post) := by
  refine GC.of (own := "ObjectFile$Contents") pn_CT rfl (Nat.le_of_ble_eq_true rfl) ?_
  intro p e s m below meth c X hK hr hlk
  refine g_args (L' := [(0, .ref (base + 1)), (1, .int a0), (2, .int a1)]) rfl ?_
  unfold wp_CT_nameCharacter_m at h
  refine g_iload_n X dCT_nameCharacter_0 rfl 2 rfl ?_
  refine g_if_lt X dCT_nameCharacter_1 (fun c => ?_) (fun c => ?_)
  · have h := h.1 c
    refine g_iconst X (v := (-1 : Int32)) dCT_nameCharacter_14 (by decide) ?_
    refine g_goto X dCT_nameCharacter_15 ?_
    exact g_iret X hr hlk dCT_nameCharacter_29 ⟨_, rfl, h⟩
  · have h := h.2 c
    refine g_iload_n X dCT_nameCharacter_4 rfl 2 rfl ?_
    refine g_aload_n X dCT_nameCharacter_5 rfl 0 rfl ?_
    refine g_iload_n X dCT_nameCharacter_6 rfl 1 rfl ?_
    refine g_iconst X (v := (5 : Int32)) dCT_nameCharacter_7 (by decide) ?_
    refine g_callV X hK gTs_ok ly_1 rfl mw_CT_symbolFact tw_333 mi_CT_symbolFact ms_CT_symbolFact (As := [.int a0, .int (5 : Int32)]) rfl ⟨(Nat.le_of_ble_eq_true rfl), (Nat.le_of_ble_eq_true rfl), Nat.le_refl _, Nat.le_refl _⟩ (m_CT_symbolFact_m h) (rest := [.int a1]) rfl (Nat.le_of_ble_eq_true rfl) dCT_nameCharacter_8 (gk_i (fun r1 M2 h => ?_))
    refine g_icmp_lt X dCT_nameCharacter_11 (fun c => ?_) (fun c => ?_)
    · have h := h.1 c
      refine g_aload_n X dCT_nameCharacter_18 rfl 0 rfl ?_
      refine g_getr X hK.1 fw_CT_28 ly_1 rfl dCT_nameCharacter_19 ?_
      refine g_iload_n X dCT_nameCharacter_22 rfl 1 rfl ?_
      refine g_bipush X (v := (16 : Int32)) dCT_nameCharacter_23 (by decide) ?_
      refine g_imul X dCT_nameCharacter_25 ?_
      refine g_iload_n X dCT_nameCharacter_26 rfl 2 rfl ?_
      refine g_iadd X dCT_nameCharacter_27 ?_
      obtain ⟨hi, h⟩ := h
      refine g_bald X hK.1 ly_7 hi dCT_nameCharacter_28 ?_
      exact g_iret X hr hlk dCT_nameCharacter_29 ⟨_, rfl, h⟩
    · have h := h.2 c
      refine g_iconst X (v := (-1 : Int32)) dCT_nameCharacter_14 (by decide) ?_
      refine g_goto X dCT_nameCharacter_15 ?_
      exact g_iret X hr hlk dCT_nameCharacter_29 ⟨_, rfl, h⟩
set_option maxRecDepth 100000 in
set_option maxHeartbeats 4000000 in
theorem m_CT_hasName_m_40 {l : Launch} {D : va_G} {ta : Nat → ClassId} {base : Nat} {sa : Nat → Nat} {post : Bool → gMem → Prop} {a0 : Int32} {a2 : Int32} {M : gMem} (h : wp_CT_hasName_m_40 post a0 a2 M) : GC gLay gCl D ta base gNw sa gTabs gTs l y_CT_hasName b_CT_hasName 5 (some .boolean) 2 44 [.ref (base + 1), .int a0, .ref (base + 40), .int a2] M (gPz post) := by
  refine GC.of (own := "ObjectFile$Contents") pn_CT rfl (Nat.le_of_ble_eq_true rfl) ?_
  intro p e s m below meth c X hK hr hlk
  have r_21 : ∀ (n : Nat) (v1 : Int32) (v3 : Int32) (v4 : Int32) (M : gMem), wl_CT_hasName_m_40_21 post n v1 v3 v4 M → GMx D ta base p l e 2 44 s m [.ref (base + 1), .int a0, .ref (base + 40), .int a2] below meth c (gPz post) 5 21 [(0, .ref (base + 1)), (1, .int v1), (2, .ref (base + 40)), (3, .int v3), (4, .int v4)] [] M := by
    intro n
    induction n with
    | zero => exact fun _ _ _ M h => h.elim
    | succ n ih =>
      intro v1 v3 v4 M h
      refine g_iload X dCT_hasName_21 4 rfl ?_
      refine g_iload_n X dCT_hasName_23 rfl 3 rfl ?_
      refine g_icmp_ge X dCT_hasName_24 (fun c => ?_) (fun c => ?_)
      · have h := h.1 c
        refine g_iconst X (v := (1 : Int32)) dCT_hasName_49 (by decide) ?_
        exact g_zret X hr hlk (by decide) dCT_hasName_50 ⟨true, rfl, h⟩
      · have h := h.2 c
        refine g_aload_n X dCT_hasName_27 rfl 0 rfl ?_
        refine g_iload_n X dCT_hasName_28 rfl 1 rfl ?_
        refine g_iload X dCT_hasName_29 4 rfl ?_
        refine g_callV X hK gTs_ok ly_1 rfl mw_CT_nameCharacter tw_341 mi_CT_nameCharacter ms_CT_nameCharacter (As := [.int v1, .int v4]) rfl ⟨(Nat.le_of_ble_eq_true rfl), (Nat.le_of_ble_eq_true rfl), Nat.le_refl _, Nat.le_refl _⟩ (m_CT_nameCharacter_m h) (rest := []) rfl (Nat.le_of_ble_eq_true rfl) dCT_hasName_31 (gk_i (fun r3 M4 h => ?_))
        refine g_aload_n X dCT_hasName_34 rfl 2 rfl ?_
        refine g_iload X dCT_hasName_35 4 rfl ?_
        obtain ⟨hi, h⟩ := h
        refine g_bald X hK.1 ly_40 hi dCT_hasName_37 ?_
        refine g_icmp_eq X dCT_hasName_38 (fun c => ?_) (fun c => ?_)
        · have h := h.1 c
          obtain ⟨x5, ex5⟩ : ∃ z : Int32, z = v4 + (1 : Int32) := ⟨_, rfl⟩
          have h := h x5 ex5
          refine g_iinc X (L' := [(4, .int x5), (0, .ref (base + 1)), (1, .int v1), (2, .ref (base + 40)), (3, .int v3)]) (k := 4) dCT_hasName_43 rfl (v := x5) (by rw [ex5]; rfl) (Nat.le_of_ble_eq_true rfl) rfl ?_
          refine g_goto X dCT_hasName_46 ?_
          refine g_sub (L' := [(0, .ref (base + 1)), (1, .int v1), (2, .ref (base + 40)), (3, .int v3), (4, .int x5)]) [1, 2, 3, 4, 0] rfl ?_
          exact ih v1 v3 x5 M4 h
        · have h := h.2 c
          refine g_iconst X (v := (0 : Int32)) dCT_hasName_41 (by decide) ?_
          exact g_zret X hr hlk (by decide) dCT_hasName_42 ⟨false, rfl, h⟩
  refine g_args (L' := [(0, .ref (base + 1)), (1, .int a0), (2, .ref (base + 40)), (3, .int a2)]) rfl ?_
  unfold wp_CT_hasName_m_40 at h
  refine g_aload_n X dCT_hasName_0 rfl 0 rfl ?_
  refine g_iload_n X dCT_hasName_1 rfl 1 rfl ?_
  refine g_iconst X (v := (5 : Int32)) dCT_hasName_2 (by decide) ?_
  refine g_callV X hK gTs_ok ly_1 rfl mw_CT_symbolFact tw_333 mi_CT_symbolFact ms_CT_symbolFact (As := [.int a0, .int (5 : Int32)]) rfl ⟨(Nat.le_of_ble_eq_true rfl), (Nat.le_of_ble_eq_true rfl), Nat.le_refl _, Nat.le_refl _⟩ (m_CT_symbolFact_m h) (rest := []) rfl (Nat.le_of_ble_eq_true rfl) dCT_hasName_3 (gk_i (fun r1 M2 h => ?_))
  refine g_iload_n X dCT_hasName_6 rfl 3 rfl ?_
  refine g_icmp_ne X dCT_hasName_7 (fun c => ?_) (fun c => ?_)
  · have h := h.1 c
    refine g_iconst X (v := (0 : Int32)) dCT_hasName_16 (by decide) ?_
    exact g_zret X hr hlk (by decide) dCT_hasName_17 ⟨false, rfl, h⟩
  · have h := h.2 c
    refine g_iload_n X dCT_hasName_10 rfl 3 rfl ?_
    refine g_aload_n X dCT_hasName_11 rfl 2 rfl ?_
    refine g_alen X hK.1 ly_40 (by decide) (v := (16 : Int32)) (by decide) dCT_hasName_12 ?_
    refine g_icmp_le X dCT_hasName_13 (fun c => ?_) (fun c => ?_)
    · have h := h.1 c
      refine g_iconst X (v := (0 : Int32)) dCT_hasName_18 (by decide) ?_
      refine g_istore X (L' := [(4, .int (0 : Int32)), (0, .ref (base + 1)), (1, .int a0), (2, .ref (base + 40)), (3, .int a2)]) dCT_hasName_19 (Nat.le_of_ble_eq_true rfl) rfl ?_
      refine g_sub (L' := [(0, .ref (base + 1)), (1, .int a0), (2, .ref (base + 40)), (3, .int a2), (4, .int (0 : Int32))]) [1, 2, 3, 4, 0] rfl ?_
      obtain ⟨n9, h⟩ := h
      exact r_21 n9 a0 a2 (0 : Int32) M2 h
    · have h := h.2 c
      refine g_iconst X (v := (0 : Int32)) dCT_hasName_16 (by decide) ?_
      exact g_zret X hr hlk (by decide) dCT_hasName_17 ⟨false, rfl, h⟩
set_option maxRecDepth 100000 in
set_option maxHeartbeats 4000000 in
theorem m_CT_hasGlobal_m_40 {l : Launch} {D : va_G} {ta : Nat → ClassId} {base : Nat} {sa : Nat → Nat} {post : Bool → gMem → Prop} {a1 : Int32} {M : gMem} (h : wp_CT_hasGlobal_m_40 post a1 M) : GC gLay gCl D ta base gNw sa gTabs gTs l y_CT_hasGlobal b_CT_hasGlobal 4 (some .boolean) 3 68 [.ref (base + 1), .ref (base + 40), .int a1] M (gPz post) := by
  refine GC.of (own := "ObjectFile$Contents") pn_CT rfl (Nat.le_of_ble_eq_true rfl) ?_
  intro p e s m below meth c X hK hr hlk
  have r_2 : ∀ (n : Nat) (v2 : Int32) (v3 : Int32) (M : gMem), wl_CT_hasGlobal_m_40_2 post n v2 v3 M → GMx D ta base p l e 3 68 s m [.ref (base + 1), .ref (base + 40), .int a1] below meth c (gPz post) 4 2 [(0, .ref (base + 1)), (1, .ref (base + 40)), (2, .int v2), (3, .int v3)] [] M := by
    intro n
    induction n with
    | zero => exact fun _ _ M h => h.elim
    | succ n ih =>
      intro v2 v3 M h
      refine g_iload_n X dCT_hasGlobal_2 rfl 3 rfl ?_
      refine g_aload_n X dCT_hasGlobal_3 rfl 0 rfl ?_
      refine g_geti X hK.1 fw_CT_44 ly_1 rfl dCT_hasGlobal_4 ?_
      refine g_icmp_ge X dCT_hasGlobal_7 (fun c => ?_) (fun c => ?_)
      · have h := h.1 c
        refine g_iconst X (v := (0 : Int32)) dCT_hasGlobal_37 (by decide) ?_
        exact g_zret X hr hlk (by decide) dCT_hasGlobal_38 ⟨false, rfl, h⟩
      · have h := h.2 c
        refine g_aload_n X dCT_hasGlobal_10 rfl 0 rfl ?_
        refine g_iload_n X dCT_hasGlobal_11 rfl 3 rfl ?_
        refine g_iconst X (v := (3 : Int32)) dCT_hasGlobal_12 (by decide) ?_
        refine g_callV X hK gTs_ok ly_1 rfl mw_CT_symbolFact tw_333 mi_CT_symbolFact ms_CT_symbolFact (As := [.int v3, .int (3 : Int32)]) rfl ⟨(Nat.le_of_ble_eq_true rfl), (Nat.le_of_ble_eq_true rfl), Nat.le_refl _, Nat.le_refl _⟩ (m_CT_symbolFact_m h) (rest := []) rfl (Nat.le_of_ble_eq_true rfl) dCT_hasGlobal_13 (gk_i (fun r1 M2 h => ?_))
        refine g_if_eq X dCT_hasGlobal_16 (fun c => ?_) (fun c => ?_)
        · have h := h.1 c
          obtain ⟨x3, ex3⟩ : ∃ z : Int32, z = v3 + (1 : Int32) := ⟨_, rfl⟩
          have h := h x3 ex3
          refine g_iinc X (L' := [(3, .int x3), (0, .ref (base + 1)), (1, .ref (base + 40)), (2, .int v2)]) (k := 3) dCT_hasGlobal_31 rfl (v := x3) (by rw [ex3]; rfl) (Nat.le_of_ble_eq_true rfl) rfl ?_
          refine g_goto X dCT_hasGlobal_34 ?_
          refine g_sub (L' := [(0, .ref (base + 1)), (1, .ref (base + 40)), (2, .int v2), (3, .int x3)]) [1, 2, 3, 0] rfl ?_
          exact ih v2 x3 M2 h
        · have h := h.2 c
          refine g_aload_n X dCT_hasGlobal_19 rfl 0 rfl ?_
          refine g_iload_n X dCT_hasGlobal_20 rfl 3 rfl ?_
          refine g_aload_n X dCT_hasGlobal_21 rfl 1 rfl ?_
          refine g_iload_n X dCT_hasGlobal_22 rfl 2 rfl ?_
          refine g_callV X hK gTs_ok ly_1 rfl mw_CT_hasName tw_337 mi_CT_hasName ms_CT_hasName (As := [.int v3, .ref (base + 40), .int v2]) rfl ⟨(Nat.le_of_ble_eq_true rfl), (Nat.le_of_ble_eq_true rfl), Nat.le_refl _, Nat.le_refl _⟩ (m_CT_hasName_m_40 h) (rest := []) rfl (Nat.le_of_ble_eq_true rfl) dCT_hasGlobal_23 (gk_z (fun r4 M5 h => ?_))
          refine g_if_eq X dCT_hasGlobal_26 (fun c => ?_) (fun c => ?_)
          · have h := h.1 c
            obtain ⟨x6, ex6⟩ : ∃ z : Int32, z = v3 + (1 : Int32) := ⟨_, rfl⟩
            have h := h x6 ex6
            refine g_iinc X (L' := [(3, .int x6), (0, .ref (base + 1)), (1, .ref (base + 40)), (2, .int v2)]) (k := 3) dCT_hasGlobal_31 rfl (v := x6) (by rw [ex6]; rfl) (Nat.le_of_ble_eq_true rfl) rfl ?_
            refine g_goto X dCT_hasGlobal_34 ?_
            refine g_sub (L' := [(0, .ref (base + 1)), (1, .ref (base + 40)), (2, .int v2), (3, .int x6)]) [1, 2, 3, 0] rfl ?_
            exact ih v2 x6 M5 h
          · have h := h.2 c
            refine g_iconst X (v := (1 : Int32)) dCT_hasGlobal_29 (by decide) ?_
            exact g_zret X hr hlk (by decide) dCT_hasGlobal_30 ⟨true, rfl, h⟩
  refine g_args (L' := [(0, .ref (base + 1)), (1, .ref (base + 40)), (2, .int a1)]) rfl ?_
  unfold wp_CT_hasGlobal_m_40 at h
  refine g_iconst X (v := (0 : Int32)) dCT_hasGlobal_0 (by decide) ?_
  refine g_istore_n X (L' := [(3, .int (0 : Int32)), (0, .ref (base + 1)), (1, .ref (base + 40)), (2, .int a1)]) dCT_hasGlobal_1 rfl (Nat.le_of_ble_eq_true rfl) rfl ?_
  refine g_sub (L' := [(0, .ref (base + 1)), (1, .ref (base + 40)), (2, .int a1), (3, .int (0 : Int32))]) [1, 2, 3, 0] rfl ?_
  obtain ⟨n9, h⟩ := h
  exact r_2 n9 a1 (0 : Int32) M h
set_option maxRecDepth 100000 in
set_option maxHeartbeats 4000000 in
theorem m_OF_symbol {l : Launch} {D : va_G} {ta : Nat → ClassId} {base : Nat} {sa : Nat → Nat} {post : Int32 → gMem → Prop} {a0 : Int32} {a1 : Int32} {a2 : Int32} {a3 : Int32} {a4 : Int32} {M : gMem} (h : wp_OF_symbol post a0 a1 a2 a3 a4 M) : GC gLay gCl D ta base gNw sa gTabs gTs l y_OF_symbol b_OF_symbol 8 (some .int) 4 91 [.ref (base + 0), .int a0, .int a1, .int a2, .int a3, .int a4] M (gPi post) := by
  refine GC.of (own := "ObjectFile") pn_OF rfl (Nat.le_of_ble_eq_true rfl) ?_
  intro p e s m below meth c X hK hr hlk
  have r_84 : ∀ (v1 : Int32) (v2 : Int32) (v3 : Int32) (v4 : Int32) (v5 : Int32) (v6 : Int32) (M : gMem), wj_OF_symbol_84 post v1 v2 v3 v4 v5 v6 M → GMx D ta base p l e 4 91 s m [.ref (base + 0), .int a0, .int a1, .int a2, .int a3, .int a4] below meth c (gPi post) 8 84 [(0, .ref (base + 0)), (1, .int v1), (2, .int v2), (3, .int v3), (4, .int v4), (5, .int v5), (6, .int v6)] [] M := by
    intro v1 v2 v3 v4 v5 v6 M h
    unfold wj_OF_symbol_84 at h
    refine g_aload_n X dOF_symbol_84 rfl 0 rfl ?_
    refine g_getr X hK.1 fw_OF_12 ly_0 rfl dOF_symbol_85 ?_
    refine g_aload_n X dOF_symbol_88 rfl 0 rfl ?_
    refine g_getr X hK.1 fw_OF_60 ly_0 rfl dOF_symbol_89 ?_
    refine g_iconst X (v := (0 : Int32)) dOF_symbol_92 (by decide) ?_
    refine g_iload X dOF_symbol_93 6 rfl ?_
    refine g_callVN X hK gTs_ok ly_1 rfl mw_CT_addSymbol nw_345 mi_CT_addSymbol ms_CT_addSymbol (As := [.ref (base + 40), .int (0 : Int32), .int v6]) rfl ⟨(Nat.le_of_ble_eq_true rfl), (Nat.le_of_ble_eq_true rfl), Nat.le_refl _, Nat.le_refl _⟩ (m_CT_addSymbol_m_40 h) (rest := []) rfl (Nat.le_of_ble_eq_true rfl) dOF_symbol_95 (gk_i (fun r9 M10 h => ?_))
    refine g_istore X (L' := [(7, .int r9), (0, .ref (base + 0)), (1, .int v1), (2, .int v2), (3, .int v3), (4, .int v4), (5, .int v5), (6, .int v6)]) dOF_symbol_98 (Nat.le_of_ble_eq_true rfl) rfl ?_
    refine g_aload_n X dOF_symbol_100 rfl 1 rfl ?_
    refine g_getr X hK.1 fw_OF_12 ly_0 rfl dOF_symbol_101 ?_
    refine g_iload X dOF_symbol_104 0 rfl ?_
    refine g_iload_n X dOF_symbol_106 rfl 2 rfl ?_
    refine g_iload_n X dOF_symbol_107 rfl 3 rfl ?_
    refine g_iload_n X dOF_symbol_108 rfl 4 rfl ?_
    refine g_iload X dOF_symbol_109 5 rfl ?_
    refine g_iload X dOF_symbol_111 6 rfl ?_
    refine g_callVN X hK gTs_ok ly_1 rfl mw_CT_tellSymbol nw_352 mi_CT_tellSymbol ms_CT_tellSymbol (As := [.int r9, .int v1, .int v2, .int v3, .int v4, .int v5]) rfl ⟨(Nat.le_of_ble_eq_true rfl), (Nat.le_of_ble_eq_true rfl), Nat.le_refl _, Nat.le_refl _⟩ (m_CT_tellSymbol_m h) (rest := []) rfl (Nat.le_of_ble_eq_true rfl) dOF_symbol_113 (gk_v (fun M12 h => ?_))
    refine g_iload X dOF_symbol_116 0 rfl ?_
    exact g_iret X hr hlk dOF_symbol_118 ⟨_, rfl, h⟩
  refine g_args (L' := [(0, .ref (base + 0)), (1, .int a0), (2, .int a1), (3, .int a2), (4, .int a3), (5, .int a4)]) rfl ?_
  unfold wp_OF_symbol at h
  refine g_aload_n X dOF_symbol_0 rfl 0 rfl ?_
  refine g_geti X hK.1 fw_OF_67 ly_0 rfl dOF_symbol_1 ?_
  refine g_topi (fun x1 ex1 => ?_)
  have h := h x1 ex1
  refine g_istore X (L' := [(6, .int x1), (0, .ref (base + 0)), (1, .int a0), (2, .int a1), (3, .int a2), (4, .int a3), (5, .int a4)]) dOF_symbol_4 (Nat.le_of_ble_eq_true rfl) rfl ?_
  refine g_aload_n X dOF_symbol_6 rfl 1 rfl ?_
  refine g_iconst X (v := (0 : Int32)) dOF_symbol_7 (by decide) ?_
  refine g_puti X hK.1 fw_OF_67 pw_OF_8 ly_0 rfl dOF_symbol_8 ?_
  refine g_topM (fun M2 eM2 => ?_)
  have h := h M2 eM2
  refine g_iload X dOF_symbol_11 0 rfl ?_
  refine g_if_eq X dOF_symbol_13 (fun c => ?_) (fun c => ?_)
  · have h := h.1 c
    refine g_iconst X (v := (-1 : Int32)) dOF_symbol_42 (by decide) ?_
    exact g_iret X hr hlk dOF_symbol_43 ⟨_, rfl, h⟩
  · have h := h.2 c
    refine g_iload_n X dOF_symbol_16 rfl 2 rfl ?_
    refine g_iconst X (v := (-1 : Int32)) dOF_symbol_17 (by decide) ?_
    refine g_icmp_lt X dOF_symbol_18 (fun c => ?_) (fun c => ?_)
    · have h := h.1 c
      refine g_iconst X (v := (-1 : Int32)) dOF_symbol_42 (by decide) ?_
      exact g_iret X hr hlk dOF_symbol_43 ⟨_, rfl, h⟩
    · have h := h.2 c
      refine g_iload_n X dOF_symbol_21 rfl 2 rfl ?_
      refine g_iconst X (v := (5 : Int32)) dOF_symbol_22 (by decide) ?_
      refine g_icmp_gt X dOF_symbol_23 (fun c => ?_) (fun c => ?_)
      · have h := h.1 c
        refine g_iconst X (v := (-1 : Int32)) dOF_symbol_42 (by decide) ?_
        exact g_iret X hr hlk dOF_symbol_43 ⟨_, rfl, h⟩
      · have h := h.2 c
        refine g_iload X dOF_symbol_26 5 rfl ?_
        refine g_callS X hK gTs_ok mw_OF_isBindOrType tw_315 mt_OF_isBindOrType (As := [.int a3]) rfl ⟨(Nat.le_of_ble_eq_true rfl), (Nat.le_of_ble_eq_true rfl), Nat.le_refl _, Nat.le_refl _⟩ (m_OF_isBindOrType h) (rest := []) rfl (Nat.le_of_ble_eq_true rfl) dOF_symbol_28 (gk_z (fun r3 M4 h => ?_))
        refine g_if_eq X dOF_symbol_31 (fun c => ?_) (fun c => ?_)
        · have h := h.1 c
          refine g_iconst X (v := (-1 : Int32)) dOF_symbol_42 (by decide) ?_
          exact g_iret X hr hlk dOF_symbol_43 ⟨_, rfl, h⟩
        · have h := h.2 c
          refine g_iload X dOF_symbol_34 6 rfl ?_
          refine g_callS X hK gTs_ok mw_OF_isBindOrType tw_315 mt_OF_isBindOrType (As := [.int a4]) rfl ⟨(Nat.le_of_ble_eq_true rfl), (Nat.le_of_ble_eq_true rfl), Nat.le_refl _, Nat.le_refl _⟩ (m_OF_isBindOrType h) (rest := []) rfl (Nat.le_of_ble_eq_true rfl) dOF_symbol_36 (gk_z (fun r5 M6 h => ?_))
          refine g_if_ne X dOF_symbol_39 (fun c => ?_) (fun c => ?_)
          · have h := h.1 c
            refine g_iload_n X dOF_symbol_44 rfl 2 rfl ?_
            refine g_iload_n X dOF_symbol_45 rfl 3 rfl ?_
            refine g_iload_n X dOF_symbol_46 rfl 4 rfl ?_
            refine g_iload X dOF_symbol_47 5 rfl ?_
            refine g_ldc2 X (v := (4294967296 : Int64)) (tw_318) dOF_symbol_49 ?_
            refine g_callS X hK gTs_ok mw_OF_flawOf tw_319 mt_OF_flawOf (As := [.int a0, .int a1, .int a2, .int a3, .long (4294967296 : Int64)]) rfl ⟨(Nat.le_of_ble_eq_true rfl), (Nat.le_of_ble_eq_true rfl), Nat.le_refl _, Nat.le_refl _⟩ (m_OF_flawOf h) (rest := []) rfl (Nat.le_of_ble_eq_true rfl) dOF_symbol_52 (gk_i (fun r7 M8 h => ?_))
            refine g_iconst X (v := (-1 : Int32)) dOF_symbol_55 (by decide) ?_
            refine g_icmp_eq X dOF_symbol_56 (fun c => ?_) (fun c => ?_)
            · have h := h.1 c
              refine g_iload X dOF_symbol_61 5 rfl ?_
              refine g_if_eq X dOF_symbol_63 (fun c => ?_) (fun c => ?_)
              · have h := h.1 c
                refine g_sub (L' := [(0, .ref (base + 0)), (1, .int a0), (2, .int a1), (3, .int a2), (4, .int a3), (5, .int a4), (6, .int x1)]) [1, 2, 3, 4, 5, 6, 0] rfl ?_
                exact r_84 a0 a1 a2 a3 a4 x1 M8 h
              · have h := h.2 c
                refine g_aload_n X dOF_symbol_66 rfl 1 rfl ?_
                refine g_getr X hK.1 fw_OF_12 ly_0 rfl dOF_symbol_67 ?_
                refine g_aload_n X dOF_symbol_70 rfl 1 rfl ?_
                refine g_getr X hK.1 fw_OF_60 ly_0 rfl dOF_symbol_71 ?_
                refine g_iload X dOF_symbol_74 0 rfl ?_
                refine g_callVN X hK gTs_ok ly_1 rfl mw_CT_hasGlobal nw_329 mi_CT_hasGlobal ms_CT_hasGlobal (As := [.ref (base + 40), .int x1]) rfl ⟨(Nat.le_of_ble_eq_true rfl), (Nat.le_of_ble_eq_true rfl), Nat.le_refl _, Nat.le_refl _⟩ (m_CT_hasGlobal_m_40 h) (rest := []) rfl (Nat.le_of_ble_eq_true rfl) dOF_symbol_76 (gk_z (fun r13 M14 h => ?_))
                refine g_if_eq X dOF_symbol_79 (fun c => ?_) (fun c => ?_)
                · have h := h.1 c
                  refine g_sub (L' := [(0, .ref (base + 0)), (1, .int a0), (2, .int a1), (3, .int a2), (4, .int a3), (5, .int a4), (6, .int x1)]) [1, 2, 3, 4, 5, 6, 0] rfl ?_
                  exact r_84 a0 a1 a2 a3 a4 x1 M14 h
                · have h := h.2 c
                  refine g_iconst X (v := (-1 : Int32)) dOF_symbol_82 (by decide) ?_
                  exact g_iret X hr hlk dOF_symbol_83 ⟨_, rfl, h⟩
            · have h := h.2 c
              refine g_iconst X (v := (-1 : Int32)) dOF_symbol_59 (by decide) ?_
              exact g_iret X hr hlk dOF_symbol_60 ⟨_, rfl, h⟩
          · have h := h.2 c
            refine g_iconst X (v := (-1 : Int32)) dOF_symbol_42 (by decide) ?_
            exact g_iret X hr hlk dOF_symbol_43 ⟨_, rfl, h⟩
set_option maxRecDepth 100000 in
set_option maxHeartbeats 4000000 in
theorem m_OF_widthOf {l : Launch} {D : va_G} {ta : Nat → ClassId} {base : Nat} {sa : Nat → Nat} {post : Int32 → gMem → Prop} {a0 : Int32} {a1 : Int32} {M : gMem} (h : wp_OF_widthOf post a0 a1 M) : GC gLay gCl D ta base gNw sa gTabs gTs l y_OF_widthOf b_OF_widthOf 2 (some .int) 0 0 [.int a0, .int a1] M (gPi post) := by
  refine GC.of (own := "ObjectFile") pn_OF rfl (Nat.le_of_ble_eq_true rfl) ?_
  intro p e s m below meth c X hK hr hlk
  refine g_args (L' := [(0, .int a0), (1, .int a1)]) rfl ?_
  unfold wp_OF_widthOf at h
  refine g_iload_n X dOF_widthOf_0 rfl 0 rfl ?_
  refine g_table X (dt := 233) [((1 : Int32), 226), ((2 : Int32), 233), ((3 : Int32), 233), ((4 : Int32), 233), ((5 : Int32), 233), ((6 : Int32), 233), ((7 : Int32), 233), ((8 : Int32), 233), ((9 : Int32), 233), ((10 : Int32), 233), ((11 : Int32), 233), ((12 : Int32), 233), ((13 : Int32), 233), ((14 : Int32), 233), ((15 : Int32), 233), ((16 : Int32), 226), ((17 : Int32), 226), ((18 : Int32), 233), ((19 : Int32), 228), ((20 : Int32), 233), ((21 : Int32), 233), ((22 : Int32), 233), ((23 : Int32), 226), ((24 : Int32), 226), ((25 : Int32), 226), ((26 : Int32), 226), ((27 : Int32), 226), ((28 : Int32), 226), ((29 : Int32), 233), ((30 : Int32), 233), ((31 : Int32), 233), ((32 : Int32), 233), ((33 : Int32), 222), ((34 : Int32), 224), ((35 : Int32), 226), ((36 : Int32), 233), ((37 : Int32), 222), ((38 : Int32), 224), ((39 : Int32), 226), ((40 : Int32), 233), ((41 : Int32), 233), ((42 : Int32), 233), ((43 : Int32), 231), ((44 : Int32), 224), ((45 : Int32), 224), ((46 : Int32), 233), ((47 : Int32), 233), ((48 : Int32), 233), ((49 : Int32), 233), ((50 : Int32), 233), ((51 : Int32), 220)] dOF_widthOf_1.1 (by decide +kernel) (by decide) (by decide) ?_
  refine gSw_cons (fun c => ?_) (fun c => ?_)
  · have h := h.1 c
    refine g_iconst X (v := (4 : Int32)) dOF_widthOf_226 (by decide) ?_
    exact g_iret X hr hlk dOF_widthOf_227 ⟨_, rfl, h⟩
  · have h := h.2 c
    refine gSw_cons (fun c => ?_) (fun c => ?_)
    · have h := h.1 c
      refine g_iconst X (v := (-1 : Int32)) dOF_widthOf_233 (by decide) ?_
      exact g_iret X hr hlk dOF_widthOf_234 ⟨_, rfl, h⟩
    · have h := h.2 c
      refine gSw_cons (fun c => ?_) (fun c => ?_)
      · have h := h.1 c
        refine g_iconst X (v := (-1 : Int32)) dOF_widthOf_233 (by decide) ?_
        exact g_iret X hr hlk dOF_widthOf_234 ⟨_, rfl, h⟩
      · have h := h.2 c
        refine gSw_cons (fun c => ?_) (fun c => ?_)
        · have h := h.1 c
          refine g_iconst X (v := (-1 : Int32)) dOF_widthOf_233 (by decide) ?_
          exact g_iret X hr hlk dOF_widthOf_234 ⟨_, rfl, h⟩
        · have h := h.2 c
          refine gSw_cons (fun c => ?_) (fun c => ?_)
          · have h := h.1 c
            refine g_iconst X (v := (-1 : Int32)) dOF_widthOf_233 (by decide) ?_
            exact g_iret X hr hlk dOF_widthOf_234 ⟨_, rfl, h⟩
          · have h := h.2 c
            refine gSw_cons (fun c => ?_) (fun c => ?_)
            · have h := h.1 c
              refine g_iconst X (v := (-1 : Int32)) dOF_widthOf_233 (by decide) ?_
              exact g_iret X hr hlk dOF_widthOf_234 ⟨_, rfl, h⟩
            · have h := h.2 c
              refine gSw_cons (fun c => ?_) (fun c => ?_)
              · have h := h.1 c
                refine g_iconst X (v := (-1 : Int32)) dOF_widthOf_233 (by decide) ?_
                exact g_iret X hr hlk dOF_widthOf_234 ⟨_, rfl, h⟩
              · have h := h.2 c
                refine gSw_cons (fun c => ?_) (fun c => ?_)
                · have h := h.1 c
                  refine g_iconst X (v := (-1 : Int32)) dOF_widthOf_233 (by decide) ?_
                  exact g_iret X hr hlk dOF_widthOf_234 ⟨_, rfl, h⟩
                · have h := h.2 c
                  refine gSw_cons (fun c => ?_) (fun c => ?_)
                  · have h := h.1 c
                    refine g_iconst X (v := (-1 : Int32)) dOF_widthOf_233 (by decide) ?_
                    exact g_iret X hr hlk dOF_widthOf_234 ⟨_, rfl, h⟩
                  · have h := h.2 c
                    refine gSw_cons (fun c => ?_) (fun c => ?_)
                    · have h := h.1 c
                      refine g_iconst X (v := (-1 : Int32)) dOF_widthOf_233 (by decide) ?_
                      exact g_iret X hr hlk dOF_widthOf_234 ⟨_, rfl, h⟩
                    · have h := h.2 c
                      refine gSw_cons (fun c => ?_) (fun c => ?_)
                      · have h := h.1 c
                        refine g_iconst X (v := (-1 : Int32)) dOF_widthOf_233 (by decide) ?_
                        exact g_iret X hr hlk dOF_widthOf_234 ⟨_, rfl, h⟩
                      · have h := h.2 c
                        refine gSw_cons (fun c => ?_) (fun c => ?_)
                        · have h := h.1 c
                          refine g_iconst X (v := (-1 : Int32)) dOF_widthOf_233 (by decide) ?_
                          exact g_iret X hr hlk dOF_widthOf_234 ⟨_, rfl, h⟩
                        · have h := h.2 c
                          refine gSw_cons (fun c => ?_) (fun c => ?_)
                          · have h := h.1 c
                            refine g_iconst X (v := (-1 : Int32)) dOF_widthOf_233 (by decide) ?_
                            exact g_iret X hr hlk dOF_widthOf_234 ⟨_, rfl, h⟩
                          · have h := h.2 c
                            refine gSw_cons (fun c => ?_) (fun c => ?_)
                            · have h := h.1 c
                              refine g_iconst X (v := (-1 : Int32)) dOF_widthOf_233 (by decide) ?_
                              exact g_iret X hr hlk dOF_widthOf_234 ⟨_, rfl, h⟩
                            · have h := h.2 c
                              refine gSw_cons (fun c => ?_) (fun c => ?_)
                              · have h := h.1 c
                                refine g_iconst X (v := (-1 : Int32)) dOF_widthOf_233 (by decide) ?_
                                exact g_iret X hr hlk dOF_widthOf_234 ⟨_, rfl, h⟩
                              · have h := h.2 c
                                refine gSw_cons (fun c => ?_) (fun c => ?_)
                                · have h := h.1 c
                                  refine g_iconst X (v := (4 : Int32)) dOF_widthOf_226 (by decide) ?_
                                  exact g_iret X hr hlk dOF_widthOf_227 ⟨_, rfl, h⟩
                                · have h := h.2 c
                                  refine gSw_cons (fun c => ?_) (fun c => ?_)
                                  · have h := h.1 c
                                    refine g_iconst X (v := (4 : Int32)) dOF_widthOf_226 (by decide) ?_
                                    exact g_iret X hr hlk dOF_widthOf_227 ⟨_, rfl, h⟩
                                  · have h := h.2 c
                                    refine gSw_cons (fun c => ?_) (fun c => ?_)
                                    · have h := h.1 c
                                      refine g_iconst X (v := (-1 : Int32)) dOF_widthOf_233 (by decide) ?_
                                      exact g_iret X hr hlk dOF_widthOf_234 ⟨_, rfl, h⟩
                                    · have h := h.2 c
                                      refine gSw_cons (fun c => ?_) (fun c => ?_)
                                      · have h := h.1 c
                                        refine g_bipush X (v := (8 : Int32)) dOF_widthOf_228 (by decide) ?_
                                        exact g_iret X hr hlk dOF_widthOf_230 ⟨_, rfl, h⟩
                                      · have h := h.2 c
                                        refine gSw_cons (fun c => ?_) (fun c => ?_)
                                        · have h := h.1 c
                                          refine g_iconst X (v := (-1 : Int32)) dOF_widthOf_233 (by decide) ?_
                                          exact g_iret X hr hlk dOF_widthOf_234 ⟨_, rfl, h⟩
                                        · have h := h.2 c
                                          refine gSw_cons (fun c => ?_) (fun c => ?_)
                                          · have h := h.1 c
                                            refine g_iconst X (v := (-1 : Int32)) dOF_widthOf_233 (by decide) ?_
                                            exact g_iret X hr hlk dOF_widthOf_234 ⟨_, rfl, h⟩
                                          · have h := h.2 c
                                            refine gSw_cons (fun c => ?_) (fun c => ?_)
                                            · have h := h.1 c
                                              refine g_iconst X (v := (-1 : Int32)) dOF_widthOf_233 (by decide) ?_
                                              exact g_iret X hr hlk dOF_widthOf_234 ⟨_, rfl, h⟩
                                            · have h := h.2 c
                                              refine gSw_cons (fun c => ?_) (fun c => ?_)
                                              · have h := h.1 c
                                                refine g_iconst X (v := (4 : Int32)) dOF_widthOf_226 (by decide) ?_
                                                exact g_iret X hr hlk dOF_widthOf_227 ⟨_, rfl, h⟩
                                              · have h := h.2 c
                                                refine gSw_cons (fun c => ?_) (fun c => ?_)
                                                · have h := h.1 c
                                                  refine g_iconst X (v := (4 : Int32)) dOF_widthOf_226 (by decide) ?_
                                                  exact g_iret X hr hlk dOF_widthOf_227 ⟨_, rfl, h⟩
                                                · have h := h.2 c
                                                  refine gSw_cons (fun c => ?_) (fun c => ?_)
                                                  · have h := h.1 c
                                                    refine g_iconst X (v := (4 : Int32)) dOF_widthOf_226 (by decide) ?_
                                                    exact g_iret X hr hlk dOF_widthOf_227 ⟨_, rfl, h⟩
                                                  · have h := h.2 c
                                                    refine gSw_cons (fun c => ?_) (fun c => ?_)
                                                    · have h := h.1 c
                                                      refine g_iconst X (v := (4 : Int32)) dOF_widthOf_226 (by decide) ?_
                                                      exact g_iret X hr hlk dOF_widthOf_227 ⟨_, rfl, h⟩
                                                    · have h := h.2 c
                                                      refine gSw_cons (fun c => ?_) (fun c => ?_)
                                                      · have h := h.1 c
                                                        refine g_iconst X (v := (4 : Int32)) dOF_widthOf_226 (by decide) ?_
                                                        exact g_iret X hr hlk dOF_widthOf_227 ⟨_, rfl, h⟩
                                                      · have h := h.2 c
                                                        refine gSw_cons (fun c => ?_) (fun c => ?_)
                                                        · have h := h.1 c
                                                          refine g_iconst X (v := (4 : Int32)) dOF_widthOf_226 (by decide) ?_
                                                          exact g_iret X hr hlk dOF_widthOf_227 ⟨_, rfl, h⟩
                                                        · have h := h.2 c
                                                          refine gSw_cons (fun c => ?_) (fun c => ?_)
                                                          · have h := h.1 c
                                                            refine g_iconst X (v := (-1 : Int32)) dOF_widthOf_233 (by decide) ?_
                                                            exact g_iret X hr hlk dOF_widthOf_234 ⟨_, rfl, h⟩
                                                          · have h := h.2 c
                                                            refine gSw_cons (fun c => ?_) (fun c => ?_)
                                                            · have h := h.1 c
                                                              refine g_iconst X (v := (-1 : Int32)) dOF_widthOf_233 (by decide) ?_
                                                              exact g_iret X hr hlk dOF_widthOf_234 ⟨_, rfl, h⟩
                                                            · have h := h.2 c
                                                              refine gSw_cons (fun c => ?_) (fun c => ?_)
                                                              · have h := h.1 c
                                                                refine g_iconst X (v := (-1 : Int32)) dOF_widthOf_233 (by decide) ?_
                                                                exact g_iret X hr hlk dOF_widthOf_234 ⟨_, rfl, h⟩
                                                              · have h := h.2 c
                                                                refine gSw_cons (fun c => ?_) (fun c => ?_)
                                                                · have h := h.1 c
                                                                  refine g_iconst X (v := (-1 : Int32)) dOF_widthOf_233 (by decide) ?_
                                                                  exact g_iret X hr hlk dOF_widthOf_234 ⟨_, rfl, h⟩
                                                                · have h := h.2 c
                                                                  refine gSw_cons (fun c => ?_) (fun c => ?_)
                                                                  · have h := h.1 c
                                                                    refine g_iconst X (v := (1 : Int32)) dOF_widthOf_222 (by decide) ?_
                                                                    exact g_iret X hr hlk dOF_widthOf_223 ⟨_, rfl, h⟩
                                                                  · have h := h.2 c
                                                                    refine gSw_cons (fun c => ?_) (fun c => ?_)
                                                                    · have h := h.1 c
                                                                      refine g_iconst X (v := (2 : Int32)) dOF_widthOf_224 (by decide) ?_
                                                                      exact g_iret X hr hlk dOF_widthOf_225 ⟨_, rfl, h⟩
                                                                    · have h := h.2 c
                                                                      refine gSw_cons (fun c => ?_) (fun c => ?_)
                                                                      · have h := h.1 c
                                                                        refine g_iconst X (v := (4 : Int32)) dOF_widthOf_226 (by decide) ?_
                                                                        exact g_iret X hr hlk dOF_widthOf_227 ⟨_, rfl, h⟩
                                                                      · have h := h.2 c
                                                                        refine gSw_cons (fun c => ?_) (fun c => ?_)
                                                                        · have h := h.1 c
                                                                          refine g_iconst X (v := (-1 : Int32)) dOF_widthOf_233 (by decide) ?_
                                                                          exact g_iret X hr hlk dOF_widthOf_234 ⟨_, rfl, h⟩
                                                                        · have h := h.2 c
                                                                          refine gSw_cons (fun c => ?_) (fun c => ?_)
                                                                          · have h := h.1 c
                                                                            refine g_iconst X (v := (1 : Int32)) dOF_widthOf_222 (by decide) ?_
                                                                            exact g_iret X hr hlk dOF_widthOf_223 ⟨_, rfl, h⟩
                                                                          · have h := h.2 c
                                                                            refine gSw_cons (fun c => ?_) (fun c => ?_)
                                                                            · have h := h.1 c
                                                                              refine g_iconst X (v := (2 : Int32)) dOF_widthOf_224 (by decide) ?_
                                                                              exact g_iret X hr hlk dOF_widthOf_225 ⟨_, rfl, h⟩
                                                                            · have h := h.2 c
                                                                              refine gSw_cons (fun c => ?_) (fun c => ?_)
                                                                              · have h := h.1 c
                                                                                refine g_iconst X (v := (4 : Int32)) dOF_widthOf_226 (by decide) ?_
                                                                                exact g_iret X hr hlk dOF_widthOf_227 ⟨_, rfl, h⟩
                                                                              · have h := h.2 c
                                                                                refine gSw_cons (fun c => ?_) (fun c => ?_)
                                                                                · have h := h.1 c
                                                                                  refine g_iconst X (v := (-1 : Int32)) dOF_widthOf_233 (by decide) ?_
                                                                                  exact g_iret X hr hlk dOF_widthOf_234 ⟨_, rfl, h⟩
                                                                                · have h := h.2 c
                                                                                  refine gSw_cons (fun c => ?_) (fun c => ?_)
                                                                                  · have h := h.1 c
                                                                                    refine g_iconst X (v := (-1 : Int32)) dOF_widthOf_233 (by decide) ?_
                                                                                    exact g_iret X hr hlk dOF_widthOf_234 ⟨_, rfl, h⟩
                                                                                  · have h := h.2 c
                                                                                    refine gSw_cons (fun c => ?_) (fun c => ?_)
                                                                                    · have h := h.1 c
                                                                                      refine g_iconst X (v := (-1 : Int32)) dOF_widthOf_233 (by decide) ?_
                                                                                      exact g_iret X hr hlk dOF_widthOf_234 ⟨_, rfl, h⟩
                                                                                    · have h := h.2 c
                                                                                      refine gSw_cons (fun c => ?_) (fun c => ?_)
                                                                                      · have h := h.1 c
                                                                                        refine g_iload_n X dOF_widthOf_231 rfl 1 rfl ?_
                                                                                        exact g_iret X hr hlk dOF_widthOf_232 ⟨_, rfl, h⟩
                                                                                      · have h := h.2 c
                                                                                        refine gSw_cons (fun c => ?_) (fun c => ?_)
                                                                                        · have h := h.1 c
                                                                                          refine g_iconst X (v := (2 : Int32)) dOF_widthOf_224 (by decide) ?_
                                                                                          exact g_iret X hr hlk dOF_widthOf_225 ⟨_, rfl, h⟩
                                                                                        · have h := h.2 c
                                                                                          refine gSw_cons (fun c => ?_) (fun c => ?_)
                                                                                          · have h := h.1 c
                                                                                            refine g_iconst X (v := (2 : Int32)) dOF_widthOf_224 (by decide) ?_
                                                                                            exact g_iret X hr hlk dOF_widthOf_225 ⟨_, rfl, h⟩
                                                                                          · have h := h.2 c
                                                                                            refine gSw_cons (fun c => ?_) (fun c => ?_)
                                                                                            · have h := h.1 c
                                                                                              refine g_iconst X (v := (-1 : Int32)) dOF_widthOf_233 (by decide) ?_
                                                                                              exact g_iret X hr hlk dOF_widthOf_234 ⟨_, rfl, h⟩
                                                                                            · have h := h.2 c
                                                                                              refine gSw_cons (fun c => ?_) (fun c => ?_)
                                                                                              · have h := h.1 c
                                                                                                refine g_iconst X (v := (-1 : Int32)) dOF_widthOf_233 (by decide) ?_
                                                                                                exact g_iret X hr hlk dOF_widthOf_234 ⟨_, rfl, h⟩
                                                                                              · have h := h.2 c
                                                                                                refine gSw_cons (fun c => ?_) (fun c => ?_)
                                                                                                · have h := h.1 c
                                                                                                  refine g_iconst X (v := (-1 : Int32)) dOF_widthOf_233 (by decide) ?_
                                                                                                  exact g_iret X hr hlk dOF_widthOf_234 ⟨_, rfl, h⟩
                                                                                                · have h := h.2 c
                                                                                                  refine gSw_cons (fun c => ?_) (fun c => ?_)
                                                                                                  · have h := h.1 c
                                                                                                    refine g_iconst X (v := (-1 : Int32)) dOF_widthOf_233 (by decide) ?_
                                                                                                    exact g_iret X hr hlk dOF_widthOf_234 ⟨_, rfl, h⟩
                                                                                                  · have h := h.2 c
                                                                                                    refine gSw_cons (fun c => ?_) (fun c => ?_)
                                                                                                    · have h := h.1 c
                                                                                                      refine g_iconst X (v := (-1 : Int32)) dOF_widthOf_233 (by decide) ?_
                                                                                                      exact g_iret X hr hlk dOF_widthOf_234 ⟨_, rfl, h⟩
                                                                                                    · have h := h.2 c
                                                                                                      refine gSw_cons (fun c => ?_) (fun c => ?_)
                                                                                                      · have h := h.1 c
                                                                                                        refine g_iconst X (v := (0 : Int32)) dOF_widthOf_220 (by decide) ?_
                                                                                                        exact g_iret X hr hlk dOF_widthOf_221 ⟨_, rfl, h⟩
                                                                                                      · have h := h.2 c
                                                                                                        refine gSw_nil ?_
                                                                                                        refine g_iconst X (v := (-1 : Int32)) dOF_widthOf_233 (by decide) ?_
                                                                                                        exact g_iret X hr hlk dOF_widthOf_234 ⟨_, rfl, h⟩
set_option maxRecDepth 100000 in
set_option maxHeartbeats 4000000 in
theorem m_OF_kindMayBeIn {l : Launch} {D : va_G} {ta : Nat → ClassId} {base : Nat} {sa : Nat → Nat} {post : Bool → gMem → Prop} {a0 : Int32} {a1 : Int32} {M : gMem} (h : wp_OF_kindMayBeIn post a0 a1 M) : GC gLay gCl D ta base gNw sa gTabs gTs l y_OF_kindMayBeIn b_OF_kindMayBeIn 2 (some .boolean) 1 21 [.int a0, .int a1] M (gPz post) := by
  refine GC.of (own := "ObjectFile") pn_OF rfl (Nat.le_of_ble_eq_true rfl) ?_
  intro p e s m below meth c X hK hr hlk
  refine g_args (L' := [(0, .int a0), (1, .int a1)]) rfl ?_
  unfold wp_OF_kindMayBeIn at h
  refine g_iload_n X dOF_kindMayBeIn_0 rfl 1 rfl ?_
  refine g_lookup X (dt := 83) [((1 : Int32), 68), ((33 : Int32), 68), ((34 : Int32), 68), ((35 : Int32), 68), ((37 : Int32), 68), ((38 : Int32), 68), ((39 : Int32), 68)] dOF_kindMayBeIn_1.1 (by decide +kernel) (by decide +kernel) (by decide) ?_
  refine gSw_cons (fun c => ?_) (fun c => ?_)
  · have h := h.1 c
    refine g_iload_n X dOF_kindMayBeIn_68 rfl 0 rfl ?_
    refine g_if_lt X dOF_kindMayBeIn_69 (fun c => ?_) (fun c => ?_)
    · have h := h.1 c
      refine g_iconst X (v := (0 : Int32)) dOF_kindMayBeIn_81 (by decide) ?_
      exact g_zret X hr hlk (by decide) dOF_kindMayBeIn_82 ⟨false, rfl, h⟩
    · have h := h.2 c
      refine g_iload_n X dOF_kindMayBeIn_72 rfl 0 rfl ?_
      refine g_iconst X (v := (2 : Int32)) dOF_kindMayBeIn_73 (by decide) ?_
      refine g_icmp_gt X dOF_kindMayBeIn_74 (fun c => ?_) (fun c => ?_)
      · have h := h.1 c
        refine g_iconst X (v := (0 : Int32)) dOF_kindMayBeIn_81 (by decide) ?_
        exact g_zret X hr hlk (by decide) dOF_kindMayBeIn_82 ⟨false, rfl, h⟩
      · have h := h.2 c
        refine g_iconst X (v := (1 : Int32)) dOF_kindMayBeIn_77 (by decide) ?_
        refine g_goto X dOF_kindMayBeIn_78 ?_
        exact g_zret X hr hlk (by decide) dOF_kindMayBeIn_82 ⟨true, rfl, h⟩
  · have h := h.2 c
    refine gSw_cons (fun c => ?_) (fun c => ?_)
    · have h := h.1 c
      refine g_iload_n X dOF_kindMayBeIn_68 rfl 0 rfl ?_
      refine g_if_lt X dOF_kindMayBeIn_69 (fun c => ?_) (fun c => ?_)
      · have h := h.1 c
        refine g_iconst X (v := (0 : Int32)) dOF_kindMayBeIn_81 (by decide) ?_
        exact g_zret X hr hlk (by decide) dOF_kindMayBeIn_82 ⟨false, rfl, h⟩
      · have h := h.2 c
        refine g_iload_n X dOF_kindMayBeIn_72 rfl 0 rfl ?_
        refine g_iconst X (v := (2 : Int32)) dOF_kindMayBeIn_73 (by decide) ?_
        refine g_icmp_gt X dOF_kindMayBeIn_74 (fun c => ?_) (fun c => ?_)
        · have h := h.1 c
          refine g_iconst X (v := (0 : Int32)) dOF_kindMayBeIn_81 (by decide) ?_
          exact g_zret X hr hlk (by decide) dOF_kindMayBeIn_82 ⟨false, rfl, h⟩
        · have h := h.2 c
          refine g_iconst X (v := (1 : Int32)) dOF_kindMayBeIn_77 (by decide) ?_
          refine g_goto X dOF_kindMayBeIn_78 ?_
          exact g_zret X hr hlk (by decide) dOF_kindMayBeIn_82 ⟨true, rfl, h⟩
    · have h := h.2 c
      refine gSw_cons (fun c => ?_) (fun c => ?_)
      · have h := h.1 c
        refine g_iload_n X dOF_kindMayBeIn_68 rfl 0 rfl ?_
        refine g_if_lt X dOF_kindMayBeIn_69 (fun c => ?_) (fun c => ?_)
        · have h := h.1 c
          refine g_iconst X (v := (0 : Int32)) dOF_kindMayBeIn_81 (by decide) ?_
          exact g_zret X hr hlk (by decide) dOF_kindMayBeIn_82 ⟨false, rfl, h⟩
        · have h := h.2 c
          refine g_iload_n X dOF_kindMayBeIn_72 rfl 0 rfl ?_
          refine g_iconst X (v := (2 : Int32)) dOF_kindMayBeIn_73 (by decide) ?_
          refine g_icmp_gt X dOF_kindMayBeIn_74 (fun c => ?_) (fun c => ?_)
          · have h := h.1 c
            refine g_iconst X (v := (0 : Int32)) dOF_kindMayBeIn_81 (by decide) ?_
            exact g_zret X hr hlk (by decide) dOF_kindMayBeIn_82 ⟨false, rfl, h⟩
          · have h := h.2 c
            refine g_iconst X (v := (1 : Int32)) dOF_kindMayBeIn_77 (by decide) ?_
            refine g_goto X dOF_kindMayBeIn_78 ?_
            exact g_zret X hr hlk (by decide) dOF_kindMayBeIn_82 ⟨true, rfl, h⟩
      · have h := h.2 c
        refine gSw_cons (fun c => ?_) (fun c => ?_)
        · have h := h.1 c
          refine g_iload_n X dOF_kindMayBeIn_68 rfl 0 rfl ?_
          refine g_if_lt X dOF_kindMayBeIn_69 (fun c => ?_) (fun c => ?_)
          · have h := h.1 c
            refine g_iconst X (v := (0 : Int32)) dOF_kindMayBeIn_81 (by decide) ?_
            exact g_zret X hr hlk (by decide) dOF_kindMayBeIn_82 ⟨false, rfl, h⟩
          · have h := h.2 c
            refine g_iload_n X dOF_kindMayBeIn_72 rfl 0 rfl ?_
            refine g_iconst X (v := (2 : Int32)) dOF_kindMayBeIn_73 (by decide) ?_
            refine g_icmp_gt X dOF_kindMayBeIn_74 (fun c => ?_) (fun c => ?_)
            · have h := h.1 c
              refine g_iconst X (v := (0 : Int32)) dOF_kindMayBeIn_81 (by decide) ?_
              exact g_zret X hr hlk (by decide) dOF_kindMayBeIn_82 ⟨false, rfl, h⟩
            · have h := h.2 c
              refine g_iconst X (v := (1 : Int32)) dOF_kindMayBeIn_77 (by decide) ?_
              refine g_goto X dOF_kindMayBeIn_78 ?_
              exact g_zret X hr hlk (by decide) dOF_kindMayBeIn_82 ⟨true, rfl, h⟩
        · have h := h.2 c
          refine gSw_cons (fun c => ?_) (fun c => ?_)
          · have h := h.1 c
            refine g_iload_n X dOF_kindMayBeIn_68 rfl 0 rfl ?_
            refine g_if_lt X dOF_kindMayBeIn_69 (fun c => ?_) (fun c => ?_)
            · have h := h.1 c
              refine g_iconst X (v := (0 : Int32)) dOF_kindMayBeIn_81 (by decide) ?_
              exact g_zret X hr hlk (by decide) dOF_kindMayBeIn_82 ⟨false, rfl, h⟩
            · have h := h.2 c
              refine g_iload_n X dOF_kindMayBeIn_72 rfl 0 rfl ?_
              refine g_iconst X (v := (2 : Int32)) dOF_kindMayBeIn_73 (by decide) ?_
              refine g_icmp_gt X dOF_kindMayBeIn_74 (fun c => ?_) (fun c => ?_)
              · have h := h.1 c
                refine g_iconst X (v := (0 : Int32)) dOF_kindMayBeIn_81 (by decide) ?_
                exact g_zret X hr hlk (by decide) dOF_kindMayBeIn_82 ⟨false, rfl, h⟩
              · have h := h.2 c
                refine g_iconst X (v := (1 : Int32)) dOF_kindMayBeIn_77 (by decide) ?_
                refine g_goto X dOF_kindMayBeIn_78 ?_
                exact g_zret X hr hlk (by decide) dOF_kindMayBeIn_82 ⟨true, rfl, h⟩
          · have h := h.2 c
            refine gSw_cons (fun c => ?_) (fun c => ?_)
            · have h := h.1 c
              refine g_iload_n X dOF_kindMayBeIn_68 rfl 0 rfl ?_
              refine g_if_lt X dOF_kindMayBeIn_69 (fun c => ?_) (fun c => ?_)
              · have h := h.1 c
                refine g_iconst X (v := (0 : Int32)) dOF_kindMayBeIn_81 (by decide) ?_
                exact g_zret X hr hlk (by decide) dOF_kindMayBeIn_82 ⟨false, rfl, h⟩
              · have h := h.2 c
                refine g_iload_n X dOF_kindMayBeIn_72 rfl 0 rfl ?_
                refine g_iconst X (v := (2 : Int32)) dOF_kindMayBeIn_73 (by decide) ?_
                refine g_icmp_gt X dOF_kindMayBeIn_74 (fun c => ?_) (fun c => ?_)
                · have h := h.1 c
                  refine g_iconst X (v := (0 : Int32)) dOF_kindMayBeIn_81 (by decide) ?_
                  exact g_zret X hr hlk (by decide) dOF_kindMayBeIn_82 ⟨false, rfl, h⟩
                · have h := h.2 c
                  refine g_iconst X (v := (1 : Int32)) dOF_kindMayBeIn_77 (by decide) ?_
                  refine g_goto X dOF_kindMayBeIn_78 ?_
                  exact g_zret X hr hlk (by decide) dOF_kindMayBeIn_82 ⟨true, rfl, h⟩
            · have h := h.2 c
              refine gSw_cons (fun c => ?_) (fun c => ?_)
              · have h := h.1 c
                refine g_iload_n X dOF_kindMayBeIn_68 rfl 0 rfl ?_
                refine g_if_lt X dOF_kindMayBeIn_69 (fun c => ?_) (fun c => ?_)
                · have h := h.1 c
                  refine g_iconst X (v := (0 : Int32)) dOF_kindMayBeIn_81 (by decide) ?_
                  exact g_zret X hr hlk (by decide) dOF_kindMayBeIn_82 ⟨false, rfl, h⟩
                · have h := h.2 c
                  refine g_iload_n X dOF_kindMayBeIn_72 rfl 0 rfl ?_
                  refine g_iconst X (v := (2 : Int32)) dOF_kindMayBeIn_73 (by decide) ?_
                  refine g_icmp_gt X dOF_kindMayBeIn_74 (fun c => ?_) (fun c => ?_)
                  · have h := h.1 c
                    refine g_iconst X (v := (0 : Int32)) dOF_kindMayBeIn_81 (by decide) ?_
                    exact g_zret X hr hlk (by decide) dOF_kindMayBeIn_82 ⟨false, rfl, h⟩
                  · have h := h.2 c
                    refine g_iconst X (v := (1 : Int32)) dOF_kindMayBeIn_77 (by decide) ?_
                    refine g_goto X dOF_kindMayBeIn_78 ?_
                    exact g_zret X hr hlk (by decide) dOF_kindMayBeIn_82 ⟨true, rfl, h⟩
              · have h := h.2 c
                refine gSw_nil ?_
                refine g_iload_n X dOF_kindMayBeIn_83 rfl 0 rfl ?_
                refine g_if_ne X dOF_kindMayBeIn_84 (fun c => ?_) (fun c => ?_)
                · have h := h.1 c
                  refine g_iconst X (v := (0 : Int32)) dOF_kindMayBeIn_100 (by decide) ?_
                  exact g_zret X hr hlk (by decide) dOF_kindMayBeIn_101 ⟨false, rfl, h⟩
                · have h := h.2 c
                  refine g_iload_n X dOF_kindMayBeIn_87 rfl 1 rfl ?_
                  refine g_iconst X (v := (0 : Int32)) dOF_kindMayBeIn_88 (by decide) ?_
                  refine g_callS X hK gTs_ok mw_OF_widthOf tw_363 mt_OF_widthOf (As := [.int a1, .int (0 : Int32)]) rfl ⟨(Nat.le_of_ble_eq_true rfl), (Nat.le_of_ble_eq_true rfl), Nat.le_refl _, Nat.le_refl _⟩ (m_OF_widthOf h) (rest := []) rfl (Nat.le_of_ble_eq_true rfl) dOF_kindMayBeIn_89 (gk_i (fun r1 M2 h => ?_))
                  refine g_iconst X (v := (-1 : Int32)) dOF_kindMayBeIn_92 (by decide) ?_
                  refine g_icmp_eq X dOF_kindMayBeIn_93 (fun c => ?_) (fun c => ?_)
                  · have h := h.1 c
                    refine g_iconst X (v := (0 : Int32)) dOF_kindMayBeIn_100 (by decide) ?_
                    exact g_zret X hr hlk (by decide) dOF_kindMayBeIn_101 ⟨false, rfl, h⟩
                  · have h := h.2 c
                    refine g_iconst X (v := (1 : Int32)) dOF_kindMayBeIn_96 (by decide) ?_
                    refine g_goto X dOF_kindMayBeIn_97 ?_
                    exact g_zret X hr hlk (by decide) dOF_kindMayBeIn_101 ⟨true, rfl, h⟩
set_option maxRecDepth 100000 in
set_option maxHeartbeats 4000000 in
theorem m_OF_addendMayBe {l : Launch} {D : va_G} {ta : Nat → ClassId} {base : Nat} {sa : Nat → Nat} {post : Bool → gMem → Prop} {a0 : Int32} {a1 : Int32} {M : gMem} (h : wp_OF_addendMayBe post a0 a1 M) : GC gLay gCl D ta base gNw sa gTabs gTs l y_OF_addendMayBe b_OF_addendMayBe 2 (some .boolean) 0 0 [.int a0, .int a1] M (gPz post) := by
  refine GC.of (own := "ObjectFile") pn_OF rfl (Nat.le_of_ble_eq_true rfl) ?_
  intro p e s m below meth c X hK hr hlk
  refine g_args (L' := [(0, .int a0), (1, .int a1)]) rfl ?_
  unfold wp_OF_addendMayBe at h
  refine g_iload_n X dOF_addendMayBe_0 rfl 0 rfl ?_
  refine g_bipush X (v := (43 : Int32)) dOF_addendMayBe_1 (by decide) ?_
  refine g_icmp_ne X dOF_addendMayBe_3 (fun c => ?_) (fun c => ?_)
  · have h := h.1 c
    refine g_iconst X (v := (1 : Int32)) dOF_addendMayBe_22 (by decide) ?_
    refine g_goto X dOF_addendMayBe_23 ?_
    exact g_zret X hr hlk (by decide) dOF_addendMayBe_27 ⟨true, rfl, h⟩
  · have h := h.2 c
    refine g_iload_n X dOF_addendMayBe_6 rfl 1 rfl ?_
    refine g_if_lt X dOF_addendMayBe_7 (fun c => ?_) (fun c => ?_)
    · have h := h.1 c
      refine g_iconst X (v := (0 : Int32)) dOF_addendMayBe_26 (by decide) ?_
      exact g_zret X hr hlk (by decide) dOF_addendMayBe_27 ⟨false, rfl, h⟩
    · have h := h.2 c
      refine g_iload_n X dOF_addendMayBe_10 rfl 1 rfl ?_
      refine g_bipush X (v := (62 : Int32)) dOF_addendMayBe_11 (by decide) ?_
      refine g_icmp_gt X dOF_addendMayBe_13 (fun c => ?_) (fun c => ?_)
      · have h := h.1 c
        refine g_iconst X (v := (0 : Int32)) dOF_addendMayBe_26 (by decide) ?_
        exact g_zret X hr hlk (by decide) dOF_addendMayBe_27 ⟨false, rfl, h⟩
      · have h := h.2 c
        refine g_iload_n X dOF_addendMayBe_16 rfl 1 rfl ?_
        refine g_iconst X (v := (1 : Int32)) dOF_addendMayBe_17 (by decide) ?_
        refine g_iand X dOF_addendMayBe_18 ?_
        refine g_if_ne X dOF_addendMayBe_19 (fun c => ?_) (fun c => ?_)
        · have h := h.1 c
          refine g_iconst X (v := (0 : Int32)) dOF_addendMayBe_26 (by decide) ?_
          exact g_zret X hr hlk (by decide) dOF_addendMayBe_27 ⟨false, rfl, h⟩
        · have h := h.2 c
          refine g_iconst X (v := (1 : Int32)) dOF_addendMayBe_22 (by decide) ?_
          refine g_goto X dOF_addendMayBe_23 ?_
          exact g_zret X hr hlk (by decide) dOF_addendMayBe_27 ⟨true, rfl, h⟩
set_option maxRecDepth 100000 in
set_option maxHeartbeats 4000000 in
theorem m_OF_hasSymbol {l : Launch} {D : va_G} {ta : Nat → ClassId} {base : Nat} {sa : Nat → Nat} {post : Bool → gMem → Prop} {a0 : Int32} {M : gMem} (h : wp_OF_hasSymbol post a0 M) : GC gLay gCl D ta base gNw sa gTabs gTs l y_OF_hasSymbol b_OF_hasSymbol 1 (some .boolean) 0 0 [.int a0] M (gPz post) := by
  refine GC.of (own := "ObjectFile") pn_OF rfl (Nat.le_of_ble_eq_true rfl) ?_
  intro p e s m below meth c X hK hr hlk
  refine g_args (L' := [(0, .int a0)]) rfl ?_
  unfold wp_OF_hasSymbol at h
  refine g_iload_n X dOF_hasSymbol_0 rfl 0 rfl ?_
  refine g_bipush X (v := (43 : Int32)) dOF_hasSymbol_1 (by decide) ?_
  refine g_icmp_eq X dOF_hasSymbol_3 (fun c => ?_) (fun c => ?_)
  · have h := h.1 c
    refine g_iconst X (v := (0 : Int32)) dOF_hasSymbol_16 (by decide) ?_
    exact g_zret X hr hlk (by decide) dOF_hasSymbol_17 ⟨false, rfl, h⟩
  · have h := h.2 c
    refine g_iload_n X dOF_hasSymbol_6 rfl 0 rfl ?_
    refine g_bipush X (v := (51 : Int32)) dOF_hasSymbol_7 (by decide) ?_
    refine g_icmp_eq X dOF_hasSymbol_9 (fun c => ?_) (fun c => ?_)
    · have h := h.1 c
      refine g_iconst X (v := (0 : Int32)) dOF_hasSymbol_16 (by decide) ?_
      exact g_zret X hr hlk (by decide) dOF_hasSymbol_17 ⟨false, rfl, h⟩
    · have h := h.2 c
      refine g_iconst X (v := (1 : Int32)) dOF_hasSymbol_12 (by decide) ?_
      refine g_goto X dOF_hasSymbol_13 ?_
      exact g_zret X hr hlk (by decide) dOF_hasSymbol_17 ⟨true, rfl, h⟩
set_option maxRecDepth 100000 in
set_option maxHeartbeats 4000000 in
theorem m_CT_addRelocation_m {l : Launch} {D : va_G} {ta : Nat → ClassId} {base : Nat} {sa : Nat → Nat} {post : Int32 → gMem → Prop} {a0 : Int32} {a1 : Int32} {a2 : Int32} {a3 : Int32} {a4 : Int32} {M : gMem} (h : wp_CT_addRelocation_m post a0 a1 a2 a3 a4 M) : GC gLay gCl D ta base gNw sa gTabs gTs l y_CT_addRelocation b_CT_addRelocation 8 (some .int) 0 0 [.ref (base + 1), .int a0, .int a1, .int a2, .int a3, .int a4] M (gPi post) := by
  refine GC.of (own := "ObjectFile$Contents") pn_CT rfl (Nat.le_of_ble_eq_true rfl) ?_
  intro p e s m below meth c X hK hr hlk
  refine g_args (L' := [(0, .ref (base + 1)), (1, .int a0), (2, .int a1), (3, .int a2), (4, .int a3), (5, .int a4)]) rfl ?_
  unfold wp_CT_addRelocation_m at h
  refine g_aload_n X dCT_addRelocation_0 rfl 0 rfl ?_
  refine g_geti X hK.1 fw_CT_47 ly_1 rfl dCT_addRelocation_1 ?_
  refine g_if_lt X dCT_addRelocation_4 (fun c => ?_) (fun c => ?_)
  · have h := h.1 c
    refine g_iconst X (v := (-1 : Int32)) dCT_addRelocation_17 (by decide) ?_
    exact g_iret X hr hlk dCT_addRelocation_18 ⟨_, rfl, h⟩
  · have h := h.2 c
    refine g_aload_n X dCT_addRelocation_7 rfl 0 rfl ?_
    refine g_geti X hK.1 fw_CT_47 ly_1 rfl dCT_addRelocation_8 ?_
    refine g_sipush X (v := (300 : Int32)) dCT_addRelocation_11 (by decide) ?_
    refine g_icmp_lt X dCT_addRelocation_14 (fun c => ?_) (fun c => ?_)
    · have h := h.1 c
      refine g_aload_n X dCT_addRelocation_19 rfl 0 rfl ?_
      refine g_geti X hK.1 fw_CT_47 ly_1 rfl dCT_addRelocation_20 ?_
      refine g_topi (fun x1 ex1 => ?_)
      have h := h x1 ex1
      refine g_istore X (L' := [(6, .int x1), (0, .ref (base + 1)), (1, .int a0), (2, .int a1), (3, .int a2), (4, .int a3), (5, .int a4)]) dCT_addRelocation_23 (Nat.le_of_ble_eq_true rfl) rfl ?_
      refine g_aload_n X dCT_addRelocation_25 rfl 1 rfl ?_
      refine g_dup X dCT_addRelocation_26 rfl ?_
      refine g_geti X hK.1 fw_CT_47 ly_1 rfl dCT_addRelocation_27 ?_
      refine g_iconst X (v := (1 : Int32)) dCT_addRelocation_30 (by decide) ?_
      refine g_iadd X dCT_addRelocation_31 ?_
      refine g_puti X hK.1 fw_CT_47 pw_CT_9 ly_1 rfl dCT_addRelocation_32 ?_
      refine g_topM (fun M2 eM2 => ?_)
      have h := h M2 eM2
      refine g_iload X dCT_addRelocation_35 0 rfl ?_
      refine g_iconst X (v := (5 : Int32)) dCT_addRelocation_37 (by decide) ?_
      refine g_imul X dCT_addRelocation_38 ?_
      refine g_topi (fun x3 ex3 => ?_)
      have h := h x3 ex3
      refine g_istore X (L' := [(7, .int x3), (6, .int x1), (0, .ref (base + 1)), (1, .int a0), (2, .int a1), (3, .int a2), (4, .int a3), (5, .int a4)]) dCT_addRelocation_39 (Nat.le_of_ble_eq_true rfl) rfl ?_
      refine g_aload_n X dCT_addRelocation_41 rfl 2 rfl ?_
      refine g_getr X hK.1 fw_CT_31 ly_1 rfl dCT_addRelocation_42 ?_
      refine g_iload X dCT_addRelocation_45 0 rfl ?_
      refine g_iconst X (v := (0 : Int32)) dCT_addRelocation_47 (by decide) ?_
      refine g_iadd X dCT_addRelocation_48 ?_
      refine g_iload_n X dCT_addRelocation_49 rfl 3 rfl ?_
      obtain ⟨hi, h⟩ := h
      refine g_iast X hK.1 ly_8 hi dCT_addRelocation_50 ?_
      refine g_topM (fun M4 eM4 => ?_)
      have h := h M4 eM4
      refine g_aload_n X dCT_addRelocation_51 rfl 2 rfl ?_
      refine g_getr X hK.1 fw_CT_31 ly_1 rfl dCT_addRelocation_52 ?_
      refine g_iload X dCT_addRelocation_55 0 rfl ?_
      refine g_iconst X (v := (1 : Int32)) dCT_addRelocation_57 (by decide) ?_
      refine g_iadd X dCT_addRelocation_58 ?_
      refine g_iload_n X dCT_addRelocation_59 rfl 4 rfl ?_
      obtain ⟨hi, h⟩ := h
      refine g_iast X hK.1 ly_8 hi dCT_addRelocation_60 ?_
      refine g_topM (fun M5 eM5 => ?_)
      have h := h M5 eM5
      refine g_aload_n X dCT_addRelocation_61 rfl 2 rfl ?_
      refine g_getr X hK.1 fw_CT_31 ly_1 rfl dCT_addRelocation_62 ?_
      refine g_iload X dCT_addRelocation_65 0 rfl ?_
      refine g_iconst X (v := (2 : Int32)) dCT_addRelocation_67 (by decide) ?_
      refine g_iadd X dCT_addRelocation_68 ?_
      refine g_iload_n X dCT_addRelocation_69 rfl 5 rfl ?_
      obtain ⟨hi, h⟩ := h
      refine g_iast X hK.1 ly_8 hi dCT_addRelocation_70 ?_
      refine g_topM (fun M6 eM6 => ?_)
      have h := h M6 eM6
      refine g_aload_n X dCT_addRelocation_71 rfl 2 rfl ?_
      refine g_getr X hK.1 fw_CT_31 ly_1 rfl dCT_addRelocation_72 ?_
      refine g_iload X dCT_addRelocation_75 0 rfl ?_
      refine g_iconst X (v := (3 : Int32)) dCT_addRelocation_77 (by decide) ?_
      refine g_iadd X dCT_addRelocation_78 ?_
      refine g_iload X dCT_addRelocation_79 6 rfl ?_
      obtain ⟨hi, h⟩ := h
      refine g_iast X hK.1 ly_8 hi dCT_addRelocation_81 ?_
      refine g_topM (fun M7 eM7 => ?_)
      have h := h M7 eM7
      refine g_aload_n X dCT_addRelocation_82 rfl 2 rfl ?_
      refine g_getr X hK.1 fw_CT_31 ly_1 rfl dCT_addRelocation_83 ?_
      refine g_iload X dCT_addRelocation_86 0 rfl ?_
      refine g_iconst X (v := (4 : Int32)) dCT_addRelocation_88 (by decide) ?_
      refine g_iadd X dCT_addRelocation_89 ?_
      refine g_iload X dCT_addRelocation_90 7 rfl ?_
      obtain ⟨hi, h⟩ := h
      refine g_iast X hK.1 ly_8 hi dCT_addRelocation_92 ?_
      refine g_topM (fun M8 eM8 => ?_)
      have h := h M8 eM8
      refine g_iload X dCT_addRelocation_93 1 rfl ?_
      exact g_iret X hr hlk dCT_addRelocation_95 ⟨_, rfl, h⟩
    · have h := h.2 c
      refine g_iconst X (v := (-1 : Int32)) dCT_addRelocation_17 (by decide) ?_
      exact g_iret X hr hlk dCT_addRelocation_18 ⟨_, rfl, h⟩
set_option maxRecDepth 100000 in
set_option maxHeartbeats 4000000 in
theorem m_OF_relocation {l : Launch} {D : va_G} {ta : Nat → ClassId} {base : Nat} {sa : Nat → Nat} {post : Int32 → gMem → Prop} {a0 : Int32} {a1 : Int32} {a2 : Int32} {a3 : Int32} {a4 : Int32} {M : gMem} (h : wp_OF_relocation post a0 a1 a2 a3 a4 M) : GC gLay gCl D ta base gNw sa gTabs gTs l y_OF_relocation b_OF_relocation 6 (some .int) 2 42 [.ref (base + 0), .int a0, .int a1, .int a2, .int a3, .int a4] M (gPi post) := by
  refine GC.of (own := "ObjectFile") pn_OF rfl (Nat.le_of_ble_eq_true rfl) ?_
  intro p e s m below meth c X hK hr hlk
  have r_56 : ∀ (v1 : Int32) (v2 : Int32) (v3 : Int32) (v4 : Int32) (v5 : Int32) (s0 : Int32) (s1 : Int32) (M : gMem), wj_OF_relocation_56 post v1 v2 v3 v4 v5 s0 s1 M → GMx D ta base p l e 2 42 s m [.ref (base + 0), .int a0, .int a1, .int a2, .int a3, .int a4] below meth c (gPi post) 6 56 [(0, .ref (base + 0)), (1, .int v1), (2, .int v2), (3, .int v3), (4, .int v4), (5, .int v5)] [.int s0, .int s1] M := by
    intro v1 v2 v3 v4 v5 s0 s1 M h
    unfold wj_OF_relocation_56 at h
    refine g_icmp_eq X dOF_relocation_56 (fun c => ?_) (fun c => ?_)
    · have h := h.1 c
      refine g_aload_n X dOF_relocation_61 rfl 0 rfl ?_
      refine g_getr X hK.1 fw_OF_12 ly_0 rfl dOF_relocation_62 ?_
      refine g_iload_n X dOF_relocation_65 rfl 1 rfl ?_
      refine g_iload_n X dOF_relocation_66 rfl 2 rfl ?_
      refine g_iload_n X dOF_relocation_67 rfl 3 rfl ?_
      refine g_iload X dOF_relocation_68 4 rfl ?_
      refine g_iload X dOF_relocation_70 5 rfl ?_
      refine g_callVN X hK gTs_ok ly_1 rfl mw_CT_addRelocation nw_372 mi_CT_addRelocation ms_CT_addRelocation (As := [.int v1, .int v2, .int v3, .int v4, .int v5]) rfl ⟨(Nat.le_of_ble_eq_true rfl), (Nat.le_of_ble_eq_true rfl), Nat.le_refl _, Nat.le_refl _⟩ (m_CT_addRelocation_m h) (rest := []) rfl (Nat.le_of_ble_eq_true rfl) dOF_relocation_72 (gk_i (fun r7 M8 h => ?_))
      exact g_iret X hr hlk dOF_relocation_75 ⟨_, rfl, h⟩
    · have h := h.2 c
      refine g_iconst X (v := (-1 : Int32)) dOF_relocation_59 (by decide) ?_
      exact g_iret X hr hlk dOF_relocation_60 ⟨_, rfl, h⟩
  refine g_args (L' := [(0, .ref (base + 0)), (1, .int a0), (2, .int a1), (3, .int a2), (4, .int a3), (5, .int a4)]) rfl ?_
  unfold wp_OF_relocation at h
  refine g_iload_n X dOF_relocation_0 rfl 1 rfl ?_
  refine g_iload_n X dOF_relocation_1 rfl 3 rfl ?_
  refine g_callS X hK gTs_ok mw_OF_kindMayBeIn tw_360 mt_OF_kindMayBeIn (As := [.int a0, .int a2]) rfl ⟨(Nat.le_of_ble_eq_true rfl), (Nat.le_of_ble_eq_true rfl), Nat.le_refl _, Nat.le_refl _⟩ (m_OF_kindMayBeIn h) (rest := []) rfl (Nat.le_of_ble_eq_true rfl) dOF_relocation_2 (gk_z (fun r1 M2 h => ?_))
  refine g_if_eq X dOF_relocation_5 (fun c => ?_) (fun c => ?_)
  · have h := h.1 c
    refine g_iconst X (v := (-1 : Int32)) dOF_relocation_21 (by decide) ?_
    exact g_iret X hr hlk dOF_relocation_22 ⟨_, rfl, h⟩
  · have h := h.2 c
    refine g_iload_n X dOF_relocation_8 rfl 3 rfl ?_
    refine g_iload X dOF_relocation_9 5 rfl ?_
    refine g_callS X hK gTs_ok mw_OF_addendMayBe tw_366 mt_OF_addendMayBe (As := [.int a2, .int a4]) rfl ⟨(Nat.le_of_ble_eq_true rfl), (Nat.le_of_ble_eq_true rfl), Nat.le_refl _, Nat.le_refl _⟩ (m_OF_addendMayBe h) (rest := []) rfl (Nat.le_of_ble_eq_true rfl) dOF_relocation_11 (gk_z (fun r3 M4 h => ?_))
    refine g_if_eq X dOF_relocation_14 (fun c => ?_) (fun c => ?_)
    · have h := h.1 c
      refine g_iconst X (v := (-1 : Int32)) dOF_relocation_21 (by decide) ?_
      exact g_iret X hr hlk dOF_relocation_22 ⟨_, rfl, h⟩
    · have h := h.2 c
      refine g_iload_n X dOF_relocation_17 rfl 2 rfl ?_
      refine g_if_ge X dOF_relocation_18 (fun c => ?_) (fun c => ?_)
      · have h := h.1 c
        refine g_iload X dOF_relocation_23 4 rfl ?_
        refine g_iconst X (v := (-1 : Int32)) dOF_relocation_25 (by decide) ?_
        refine g_icmp_lt X dOF_relocation_26 (fun c => ?_) (fun c => ?_)
        · have h := h.1 c
          refine g_iconst X (v := (-1 : Int32)) dOF_relocation_59 (by decide) ?_
          exact g_iret X hr hlk dOF_relocation_60 ⟨_, rfl, h⟩
        · have h := h.2 c
          refine g_iload X dOF_relocation_29 4 rfl ?_
          refine g_aload_n X dOF_relocation_31 rfl 0 rfl ?_
          refine g_getr X hK.1 fw_OF_12 ly_0 rfl dOF_relocation_32 ?_
          refine g_getiN X hK.1 (gNw_of hK) fw_OF_121 ly_1 rfl dOF_relocation_35 ?_
          refine g_icmp_ge X dOF_relocation_38 (fun c => ?_) (fun c => ?_)
          · have h := h.1 c
            refine g_iconst X (v := (-1 : Int32)) dOF_relocation_59 (by decide) ?_
            exact g_iret X hr hlk dOF_relocation_60 ⟨_, rfl, h⟩
          · have h := h.2 c
            refine g_iload_n X dOF_relocation_41 rfl 3 rfl ?_
            refine g_callS X hK gTs_ok mw_OF_hasSymbol tw_369 mt_OF_hasSymbol (As := [.int a2]) rfl ⟨(Nat.le_of_ble_eq_true rfl), (Nat.le_of_ble_eq_true rfl), Nat.le_refl _, Nat.le_refl _⟩ (m_OF_hasSymbol h) (rest := []) rfl (Nat.le_of_ble_eq_true rfl) dOF_relocation_42 (gk_z (fun r5 M6 h => ?_))
            refine g_iload X dOF_relocation_45 4 rfl ?_
            refine g_iconst X (v := (-1 : Int32)) dOF_relocation_47 (by decide) ?_
            refine g_icmp_eq X dOF_relocation_48 (fun c => ?_) (fun c => ?_)
            · have h := h.1 c
              refine g_iconst X (v := (0 : Int32)) dOF_relocation_55 (by decide) ?_
              exact r_56 a0 a1 a2 a3 a4 (0 : Int32) (bI r5) M6 h
            · have h := h.2 c
              refine g_iconst X (v := (1 : Int32)) dOF_relocation_51 (by decide) ?_
              refine g_goto X dOF_relocation_52 ?_
              exact r_56 a0 a1 a2 a3 a4 (1 : Int32) (bI r5) M6 h
      · have h := h.2 c
        refine g_iconst X (v := (-1 : Int32)) dOF_relocation_21 (by decide) ?_
        exact g_iret X hr hlk dOF_relocation_22 ⟨_, rfl, h⟩
set_option maxRecDepth 100000 in
set_option maxHeartbeats 4000000 in
theorem m_CT_startGoesBeyond_m {l : Launch} {D : va_G} {ta : Nat → ClassId} {base : Nat} {sa : Nat → Nat} {post : Bool → gMem → Prop} {M : gMem} (h : wp_CT_startGoesBeyond_m post M) : GC gLay gCl D ta base gNw sa gTabs gTs l y_CT_startGoesBeyond b_CT_startGoesBeyond 1 (some .boolean) 2 41 [.ref (base + 1)] M (gPz post) := by
  refine GC.of (own := "ObjectFile$Contents") pn_CT rfl (Nat.le_of_ble_eq_true rfl) ?_
  intro p e s m below meth c X hK hr hlk
  refine g_args (L' := [(0, .ref (base + 1))]) rfl ?_
  unfold wp_CT_startGoesBeyond_m at h
  refine g_aload_n X dCT_startGoesBeyond_0 rfl 0 rfl ?_
  refine g_callV X hK gTs_ok ly_1 rfl mw_CT_latestStart tw_388 mi_CT_latestStart ms_CT_latestStart (As := []) rfl ⟨(Nat.le_of_ble_eq_true rfl), (Nat.le_of_ble_eq_true rfl), Nat.le_refl _, Nat.le_refl _⟩ (m_CT_latestStart_m h) (rest := []) rfl (Nat.le_of_ble_eq_true rfl) dCT_startGoesBeyond_1 (gk_i (fun r1 M2 h => ?_))
  refine g_aload_n X dCT_startGoesBeyond_4 rfl 0 rfl ?_
  refine g_getr X hK.1 fw_CT_15 ly_1 rfl dCT_startGoesBeyond_5 ?_
  refine g_iconst X (v := (0 : Int32)) dCT_startGoesBeyond_8 (by decide) ?_
  obtain ⟨hi, h⟩ := h
  refine g_iald X hK.1 ly_3 hi dCT_startGoesBeyond_9 ?_
  refine g_icmp_lt X dCT_startGoesBeyond_10 (fun c => ?_) (fun c => ?_)
  · have h := h.1 c
    refine g_iconst X (v := (0 : Int32)) dCT_startGoesBeyond_17 (by decide) ?_
    exact g_zret X hr hlk (by decide) dCT_startGoesBeyond_18 ⟨false, rfl, h⟩
  · have h := h.2 c
    refine g_iconst X (v := (1 : Int32)) dCT_startGoesBeyond_13 (by decide) ?_
    refine g_goto X dCT_startGoesBeyond_14 ?_
    exact g_zret X hr hlk (by decide) dCT_startGoesBeyond_18 ⟨true, rfl, h⟩
set_option maxRecDepth 100000 in
set_option maxHeartbeats 4000000 in
theorem m_CT_symbolGoesBeyond_m {l : Launch} {D : va_G} {ta : Nat → ClassId} {base : Nat} {sa : Nat → Nat} {post : Bool → gMem → Prop} {M : gMem} (h : wp_CT_symbolGoesBeyond_m post M) : GC gLay gCl D ta base gNw sa gTabs gTs l y_CT_symbolGoesBeyond b_CT_symbolGoesBeyond 3 (some .boolean) 1 22 [.ref (base + 1)] M (gPz post) := by
  refine GC.of (own := "ObjectFile$Contents") pn_CT rfl (Nat.le_of_ble_eq_true rfl) ?_
  intro p e s m below meth c X hK hr hlk
  have r_2 : ∀ (n : Nat) (v1 : Int32) (M : gMem), wl_CT_symbolGoesBeyond_m_2 post n v1 M → GMx D ta base p l e 1 22 s m [.ref (base + 1)] below meth c (gPz post) 3 2 [(0, .ref (base + 1)), (1, .int v1)] [] M := by
    intro n
    induction n with
    | zero => exact fun _ M h => h.elim
    | succ n ih =>
      intro v1 M h
      refine g_iload_n X dCT_symbolGoesBeyond_2 rfl 1 rfl ?_
      refine g_aload_n X dCT_symbolGoesBeyond_3 rfl 0 rfl ?_
      refine g_geti X hK.1 fw_CT_44 ly_1 rfl dCT_symbolGoesBeyond_4 ?_
      refine g_icmp_ge X dCT_symbolGoesBeyond_7 (fun c => ?_) (fun c => ?_)
      · have h := h.1 c
        refine g_iconst X (v := (0 : Int32)) dCT_symbolGoesBeyond_60 (by decide) ?_
        exact g_zret X hr hlk (by decide) dCT_symbolGoesBeyond_61 ⟨false, rfl, h⟩
      · have h := h.2 c
        refine g_aload_n X dCT_symbolGoesBeyond_10 rfl 0 rfl ?_
        refine g_iload_n X dCT_symbolGoesBeyond_11 rfl 1 rfl ?_
        refine g_iconst X (v := (0 : Int32)) dCT_symbolGoesBeyond_12 (by decide) ?_
        refine g_callV X hK gTs_ok ly_1 rfl mw_CT_symbolFact tw_333 mi_CT_symbolFact ms_CT_symbolFact (As := [.int v1, .int (0 : Int32)]) rfl ⟨(Nat.le_of_ble_eq_true rfl), (Nat.le_of_ble_eq_true rfl), Nat.le_refl _, Nat.le_refl _⟩ (m_CT_symbolFact_m h) (rest := []) rfl (Nat.le_of_ble_eq_true rfl) dCT_symbolGoesBeyond_13 (gk_i (fun r1 M2 h => ?_))
        refine g_istore_n X (L' := [(2, .int r1), (0, .ref (base + 1)), (1, .int v1)]) dCT_symbolGoesBeyond_16 rfl (Nat.le_of_ble_eq_true rfl) rfl ?_
        refine g_iload_n X dCT_symbolGoesBeyond_17 rfl 0 rfl ?_
        refine g_if_lt X dCT_symbolGoesBeyond_18 (fun c => ?_) (fun c => ?_)
        · have h := h.1 c
          obtain ⟨x3, ex3⟩ : ∃ z : Int32, z = v1 + (1 : Int32) := ⟨_, rfl⟩
          have h := h x3 ex3
          refine g_iinc X (L' := [(1, .int x3), (2, .int r1), (0, .ref (base + 1))]) (k := 2) dCT_symbolGoesBeyond_54 rfl (v := x3) (by rw [ex3]; rfl) (Nat.le_of_ble_eq_true rfl) rfl ?_
          refine g_goto X dCT_symbolGoesBeyond_57 ?_
          refine g_sub (L' := [(0, .ref (base + 1)), (1, .int x3)]) [2, 0] rfl ?_
          exact ih x3 M2 h
        · have h := h.2 c
          refine g_iload_n X dCT_symbolGoesBeyond_21 rfl 0 rfl ?_
          refine g_iconst X (v := (3 : Int32)) dCT_symbolGoesBeyond_22 (by decide) ?_
          refine g_icmp_gt X dCT_symbolGoesBeyond_23 (fun c => ?_) (fun c => ?_)
          · have h := h.1 c
            obtain ⟨x4, ex4⟩ : ∃ z : Int32, z = v1 + (1 : Int32) := ⟨_, rfl⟩
            have h := h x4 ex4
            refine g_iinc X (L' := [(1, .int x4), (2, .int r1), (0, .ref (base + 1))]) (k := 2) dCT_symbolGoesBeyond_54 rfl (v := x4) (by rw [ex4]; rfl) (Nat.le_of_ble_eq_true rfl) rfl ?_
            refine g_goto X dCT_symbolGoesBeyond_57 ?_
            refine g_sub (L' := [(0, .ref (base + 1)), (1, .int x4)]) [2, 0] rfl ?_
            exact ih x4 M2 h
          · have h := h.2 c
            refine g_aload_n X dCT_symbolGoesBeyond_26 rfl 1 rfl ?_
            refine g_iload_n X dCT_symbolGoesBeyond_27 rfl 2 rfl ?_
            refine g_iconst X (v := (1 : Int32)) dCT_symbolGoesBeyond_28 (by decide) ?_
            refine g_callV X hK gTs_ok ly_1 rfl mw_CT_symbolFact tw_333 mi_CT_symbolFact ms_CT_symbolFact (As := [.int v1, .int (1 : Int32)]) rfl ⟨(Nat.le_of_ble_eq_true rfl), (Nat.le_of_ble_eq_true rfl), Nat.le_refl _, Nat.le_refl _⟩ (m_CT_symbolFact_m h) (rest := []) rfl (Nat.le_of_ble_eq_true rfl) dCT_symbolGoesBeyond_29 (gk_i (fun r5 M6 h => ?_))
            refine g_i2l X dCT_symbolGoesBeyond_32 rfl ?_
            refine g_aload_n X dCT_symbolGoesBeyond_33 rfl 1 rfl ?_
            refine g_iload_n X dCT_symbolGoesBeyond_34 rfl 2 rfl ?_
            refine g_iconst X (v := (2 : Int32)) dCT_symbolGoesBeyond_35 (by decide) ?_
            refine g_callV X hK gTs_ok ly_1 rfl mw_CT_symbolFact tw_333 mi_CT_symbolFact ms_CT_symbolFact (As := [.int v1, .int (2 : Int32)]) rfl ⟨(Nat.le_of_ble_eq_true rfl), (Nat.le_of_ble_eq_true rfl), Nat.le_refl _, Nat.le_refl _⟩ (m_CT_symbolFact_m h) (rest := [.long (r5.toInt64)]) rfl (Nat.le_of_ble_eq_true rfl) dCT_symbolGoesBeyond_36 (gk_i (fun r7 M8 h => ?_))
            refine g_i2l X dCT_symbolGoesBeyond_39 rfl ?_
            refine g_ladd X dCT_symbolGoesBeyond_40 ?_
            refine g_aload_n X dCT_symbolGoesBeyond_41 rfl 1 rfl ?_
            refine g_getr X hK.1 fw_CT_15 ly_1 rfl dCT_symbolGoesBeyond_42 ?_
            refine g_iload_n X dCT_symbolGoesBeyond_45 rfl 0 rfl ?_
            obtain ⟨hi, h⟩ := h
            refine g_iald X hK.1 ly_3 hi dCT_symbolGoesBeyond_46 ?_
            refine g_i2l X dCT_symbolGoesBeyond_47 rfl ?_
            refine g_lif_le X dCT_symbolGoesBeyond_48 dCT_symbolGoesBeyond_49 (fun c => ?_) (fun c => ?_)
            · have h := h.1 c
              obtain ⟨x9, ex9⟩ : ∃ z : Int32, z = v1 + (1 : Int32) := ⟨_, rfl⟩
              have h := h x9 ex9
              refine g_iinc X (L' := [(1, .int x9), (2, .int r1), (0, .ref (base + 1))]) (k := 2) dCT_symbolGoesBeyond_54 rfl (v := x9) (by rw [ex9]; rfl) (Nat.le_of_ble_eq_true rfl) rfl ?_
              refine g_goto X dCT_symbolGoesBeyond_57 ?_
              refine g_sub (L' := [(0, .ref (base + 1)), (1, .int x9)]) [2, 0] rfl ?_
              exact ih x9 M8 h
            · have h := h.2 c
              refine g_iconst X (v := (1 : Int32)) dCT_symbolGoesBeyond_52 (by decide) ?_
              exact g_zret X hr hlk (by decide) dCT_symbolGoesBeyond_53 ⟨true, rfl, h⟩
  refine g_args (L' := [(0, .ref (base + 1))]) rfl ?_
  unfold wp_CT_symbolGoesBeyond_m at h
  refine g_iconst X (v := (0 : Int32)) dCT_symbolGoesBeyond_0 (by decide) ?_
  refine g_istore_n X (L' := [(1, .int (0 : Int32)), (0, .ref (base + 1))]) dCT_symbolGoesBeyond_1 rfl (Nat.le_of_ble_eq_true rfl) rfl ?_
  refine g_sub (L' := [(0, .ref (base + 1)), (1, .int (0 : Int32))]) [1, 0] rfl ?_
  obtain ⟨n9, h⟩ := h
  exact r_2 n9 (0 : Int32) M h
set_option maxRecDepth 100000 in
set_option maxHeartbeats 4000000 in
theorem m_CT_relocationFact_m {l : Launch} {D : va_G} {ta : Nat → ClassId} {base : Nat} {sa : Nat → Nat} {post : Int32 → gMem → Prop} {a0 : Int32} {a1 : Int32} {M : gMem} (h : wp_CT_relocationFact_m post a0 a1 M) : GC gLay gCl D ta base gNw sa gTabs gTs l y_CT_relocationFact b_CT_relocationFact 3 (some .int) 0 0 [.ref (base + 1), .int a0, .int a1] M (gPi post) := by
  refine GC.of (own := "ObjectFile$Contents") pn_CT rfl (Nat.le_of_ble_eq_true rfl) ?_
  intro p e s m below meth c X hK hr hlk
  refine g_args (L' := [(0, .ref (base + 1)), (1, .int a0), (2, .int a1)]) rfl ?_
  unfold wp_CT_relocationFact_m at h
  refine g_iload_n X dCT_relocationFact_0 rfl 1 rfl ?_
  refine g_if_lt X dCT_relocationFact_1 (fun c => ?_) (fun c => ?_)
  · have h := h.1 c
    refine g_iconst X (v := (-1 : Int32)) dCT_relocationFact_21 (by decide) ?_
    exact g_iret X hr hlk dCT_relocationFact_22 ⟨_, rfl, h⟩
  · have h := h.2 c
    refine g_iload_n X dCT_relocationFact_4 rfl 1 rfl ?_
    refine g_aload_n X dCT_relocationFact_5 rfl 0 rfl ?_
    refine g_geti X hK.1 fw_CT_47 ly_1 rfl dCT_relocationFact_6 ?_
    refine g_icmp_ge X dCT_relocationFact_9 (fun c => ?_) (fun c => ?_)
    · have h := h.1 c
      refine g_iconst X (v := (-1 : Int32)) dCT_relocationFact_21 (by decide) ?_
      exact g_iret X hr hlk dCT_relocationFact_22 ⟨_, rfl, h⟩
    · have h := h.2 c
      refine g_iload_n X dCT_relocationFact_12 rfl 2 rfl ?_
      refine g_if_lt X dCT_relocationFact_13 (fun c => ?_) (fun c => ?_)
      · have h := h.1 c
        refine g_iconst X (v := (-1 : Int32)) dCT_relocationFact_21 (by decide) ?_
        exact g_iret X hr hlk dCT_relocationFact_22 ⟨_, rfl, h⟩
      · have h := h.2 c
        refine g_iload_n X dCT_relocationFact_16 rfl 2 rfl ?_
        refine g_iconst X (v := (5 : Int32)) dCT_relocationFact_17 (by decide) ?_
        refine g_icmp_lt X dCT_relocationFact_18 (fun c => ?_) (fun c => ?_)
        · have h := h.1 c
          refine g_aload_n X dCT_relocationFact_23 rfl 0 rfl ?_
          refine g_getr X hK.1 fw_CT_31 ly_1 rfl dCT_relocationFact_24 ?_
          refine g_iload_n X dCT_relocationFact_27 rfl 1 rfl ?_
          refine g_iconst X (v := (5 : Int32)) dCT_relocationFact_28 (by decide) ?_
          refine g_imul X dCT_relocationFact_29 ?_
          refine g_iload_n X dCT_relocationFact_30 rfl 2 rfl ?_
          refine g_iadd X dCT_relocationFact_31 ?_
          obtain ⟨hi, h⟩ := h
          refine g_iald X hK.1 ly_8 hi dCT_relocationFact_32 ?_
          exact g_iret X hr hlk dCT_relocationFact_33 ⟨_, rfl, h⟩
        · have h := h.2 c
          refine g_iconst X (v := (-1 : Int32)) dCT_relocationFact_21 (by decide) ?_
          exact g_iret X hr hlk dCT_relocationFact_22 ⟨_, rfl, h⟩
set_option maxRecDepth 100000 in
set_option maxHeartbeats 4000000 in
theorem m_CT_relocationGoesBeyond_m {l : Launch} {D : va_G} {ta : Nat → ClassId} {base : Nat} {sa : Nat → Nat} {post : Bool → gMem → Prop} {M : gMem} (h : wp_CT_relocationGoesBeyond_m post M) : GC gLay gCl D ta base gNw sa gTabs gTs l y_CT_relocationGoesBeyond b_CT_relocationGoesBeyond 4 (some .boolean) 1 22 [.ref (base + 1)] M (gPz post) := by
  refine GC.of (own := "ObjectFile$Contents") pn_CT rfl (Nat.le_of_ble_eq_true rfl) ?_
  intro p e s m below meth c X hK hr hlk
  have r_2 : ∀ (n : Nat) (v1 : Int32) (M : gMem), wl_CT_relocationGoesBeyond_m_2 post n v1 M → GMx D ta base p l e 1 22 s m [.ref (base + 1)] below meth c (gPz post) 4 2 [(0, .ref (base + 1)), (1, .int v1)] [] M := by
    intro n
    induction n with
    | zero => exact fun _ M h => h.elim
    | succ n ih =>
      intro v1 M h
      refine g_iload_n X dCT_relocationGoesBeyond_2 rfl 1 rfl ?_
      refine g_aload_n X dCT_relocationGoesBeyond_3 rfl 0 rfl ?_
      refine g_geti X hK.1 fw_CT_47 ly_1 rfl dCT_relocationGoesBeyond_4 ?_
      refine g_icmp_ge X dCT_relocationGoesBeyond_7 (fun c => ?_) (fun c => ?_)
      · have h := h.1 c
        refine g_iconst X (v := (0 : Int32)) dCT_relocationGoesBeyond_71 (by decide) ?_
        exact g_zret X hr hlk (by decide) dCT_relocationGoesBeyond_72 ⟨false, rfl, h⟩
      · have h := h.2 c
        refine g_aload_n X dCT_relocationGoesBeyond_10 rfl 0 rfl ?_
        refine g_iload_n X dCT_relocationGoesBeyond_11 rfl 1 rfl ?_
        refine g_iconst X (v := (0 : Int32)) dCT_relocationGoesBeyond_12 (by decide) ?_
        refine g_callV X hK gTs_ok ly_1 rfl mw_CT_relocationFact tw_397 mi_CT_relocationFact ms_CT_relocationFact (As := [.int v1, .int (0 : Int32)]) rfl ⟨(Nat.le_of_ble_eq_true rfl), (Nat.le_of_ble_eq_true rfl), Nat.le_refl _, Nat.le_refl _⟩ (m_CT_relocationFact_m h) (rest := []) rfl (Nat.le_of_ble_eq_true rfl) dCT_relocationGoesBeyond_13 (gk_i (fun r1 M2 h => ?_))
        refine g_istore_n X (L' := [(2, .int r1), (0, .ref (base + 1)), (1, .int v1)]) dCT_relocationGoesBeyond_16 rfl (Nat.le_of_ble_eq_true rfl) rfl ?_
        refine g_aload_n X dCT_relocationGoesBeyond_17 rfl 1 rfl ?_
        refine g_iload_n X dCT_relocationGoesBeyond_18 rfl 2 rfl ?_
        refine g_iconst X (v := (2 : Int32)) dCT_relocationGoesBeyond_19 (by decide) ?_
        refine g_callV X hK gTs_ok ly_1 rfl mw_CT_relocationFact tw_397 mi_CT_relocationFact ms_CT_relocationFact (As := [.int v1, .int (2 : Int32)]) rfl ⟨(Nat.le_of_ble_eq_true rfl), (Nat.le_of_ble_eq_true rfl), Nat.le_refl _, Nat.le_refl _⟩ (m_CT_relocationFact_m h) (rest := []) rfl (Nat.le_of_ble_eq_true rfl) dCT_relocationGoesBeyond_20 (gk_i (fun r3 M4 h => ?_))
        refine g_aload_n X dCT_relocationGoesBeyond_23 rfl 1 rfl ?_
        refine g_iload_n X dCT_relocationGoesBeyond_24 rfl 2 rfl ?_
        refine g_iconst X (v := (4 : Int32)) dCT_relocationGoesBeyond_25 (by decide) ?_
        refine g_callV X hK gTs_ok ly_1 rfl mw_CT_relocationFact tw_397 mi_CT_relocationFact ms_CT_relocationFact (As := [.int v1, .int (4 : Int32)]) rfl ⟨(Nat.le_of_ble_eq_true rfl), (Nat.le_of_ble_eq_true rfl), Nat.le_refl _, Nat.le_refl _⟩ (m_CT_relocationFact_m h) (rest := [.int r3]) rfl (Nat.le_of_ble_eq_true rfl) dCT_relocationGoesBeyond_26 (gk_i (fun r5 M6 h => ?_))
        refine g_callSN X hK gTs_ok mw_OF_widthOf nw_401 mt_OF_widthOf (As := [.int r3, .int r5]) rfl ⟨(Nat.le_of_ble_eq_true rfl), (Nat.le_of_ble_eq_true rfl), Nat.le_refl _, Nat.le_refl _⟩ (m_OF_widthOf h) (rest := []) rfl (Nat.le_of_ble_eq_true rfl) dCT_relocationGoesBeyond_29 (gk_i (fun r7 M8 h => ?_))
        refine g_istore_n X (L' := [(3, .int r7), (2, .int r1), (0, .ref (base + 1)), (1, .int v1)]) dCT_relocationGoesBeyond_32 rfl (Nat.le_of_ble_eq_true rfl) rfl ?_
        refine g_iload_n X dCT_relocationGoesBeyond_33 rfl 1 rfl ?_
        refine g_if_lt X dCT_relocationGoesBeyond_34 (fun c => ?_) (fun c => ?_)
        · have h := h.1 c
          obtain ⟨x9, ex9⟩ : ∃ z : Int32, z = v1 + (1 : Int32) := ⟨_, rfl⟩
          have h := h x9 ex9
          refine g_iinc X (L' := [(1, .int x9), (3, .int r7), (2, .int r1), (0, .ref (base + 1))]) (k := 3) dCT_relocationGoesBeyond_65 rfl (v := x9) (by rw [ex9]; rfl) (Nat.le_of_ble_eq_true rfl) rfl ?_
          refine g_goto X dCT_relocationGoesBeyond_68 ?_
          refine g_sub (L' := [(0, .ref (base + 1)), (1, .int x9)]) [3, 0] rfl ?_
          exact ih x9 M8 h
        · have h := h.2 c
          refine g_iload_n X dCT_relocationGoesBeyond_37 rfl 1 rfl ?_
          refine g_iconst X (v := (2 : Int32)) dCT_relocationGoesBeyond_38 (by decide) ?_
          refine g_icmp_gt X dCT_relocationGoesBeyond_39 (fun c => ?_) (fun c => ?_)
          · have h := h.1 c
            obtain ⟨x10, ex10⟩ : ∃ z : Int32, z = v1 + (1 : Int32) := ⟨_, rfl⟩
            have h := h x10 ex10
            refine g_iinc X (L' := [(1, .int x10), (3, .int r7), (2, .int r1), (0, .ref (base + 1))]) (k := 3) dCT_relocationGoesBeyond_65 rfl (v := x10) (by rw [ex10]; rfl) (Nat.le_of_ble_eq_true rfl) rfl ?_
            refine g_goto X dCT_relocationGoesBeyond_68 ?_
            refine g_sub (L' := [(0, .ref (base + 1)), (1, .int x10)]) [3, 0] rfl ?_
            exact ih x10 M8 h
          · have h := h.2 c
            refine g_aload_n X dCT_relocationGoesBeyond_42 rfl 2 rfl ?_
            refine g_iload_n X dCT_relocationGoesBeyond_43 rfl 3 rfl ?_
            refine g_iconst X (v := (1 : Int32)) dCT_relocationGoesBeyond_44 (by decide) ?_
            refine g_callV X hK gTs_ok ly_1 rfl mw_CT_relocationFact tw_397 mi_CT_relocationFact ms_CT_relocationFact (As := [.int v1, .int (1 : Int32)]) rfl ⟨(Nat.le_of_ble_eq_true rfl), (Nat.le_of_ble_eq_true rfl), Nat.le_refl _, Nat.le_refl _⟩ (m_CT_relocationFact_m h) (rest := []) rfl (Nat.le_of_ble_eq_true rfl) dCT_relocationGoesBeyond_45 (gk_i (fun r11 M12 h => ?_))
            refine g_i2l X dCT_relocationGoesBeyond_48 rfl ?_
            refine g_iload_n X dCT_relocationGoesBeyond_49 rfl 0 rfl ?_
            refine g_i2l X dCT_relocationGoesBeyond_50 rfl ?_
            refine g_ladd X dCT_relocationGoesBeyond_51 ?_
            refine g_aload_n X dCT_relocationGoesBeyond_52 rfl 2 rfl ?_
            refine g_getr X hK.1 fw_CT_15 ly_1 rfl dCT_relocationGoesBeyond_53 ?_
            refine g_iload_n X dCT_relocationGoesBeyond_56 rfl 1 rfl ?_
            obtain ⟨hi, h⟩ := h
            refine g_iald X hK.1 ly_3 hi dCT_relocationGoesBeyond_57 ?_
            refine g_i2l X dCT_relocationGoesBeyond_58 rfl ?_
            refine g_lif_le X dCT_relocationGoesBeyond_59 dCT_relocationGoesBeyond_60 (fun c => ?_) (fun c => ?_)
            · have h := h.1 c
              obtain ⟨x13, ex13⟩ : ∃ z : Int32, z = v1 + (1 : Int32) := ⟨_, rfl⟩
              have h := h x13 ex13
              refine g_iinc X (L' := [(1, .int x13), (3, .int r7), (2, .int r1), (0, .ref (base + 1))]) (k := 3) dCT_relocationGoesBeyond_65 rfl (v := x13) (by rw [ex13]; rfl) (Nat.le_of_ble_eq_true rfl) rfl ?_
              refine g_goto X dCT_relocationGoesBeyond_68 ?_
              refine g_sub (L' := [(0, .ref (base + 1)), (1, .int x13)]) [3, 0] rfl ?_
              exact ih x13 M12 h
            · have h := h.2 c
              refine g_iconst X (v := (1 : Int32)) dCT_relocationGoesBeyond_63 (by decide) ?_
              exact g_zret X hr hlk (by decide) dCT_relocationGoesBeyond_64 ⟨true, rfl, h⟩
  refine g_args (L' := [(0, .ref (base + 1))]) rfl ?_
  unfold wp_CT_relocationGoesBeyond_m at h
  refine g_iconst X (v := (0 : Int32)) dCT_relocationGoesBeyond_0 (by decide) ?_
  refine g_istore_n X (L' := [(1, .int (0 : Int32)), (0, .ref (base + 1))]) dCT_relocationGoesBeyond_1 rfl (Nat.le_of_ble_eq_true rfl) rfl ?_
  refine g_sub (L' := [(0, .ref (base + 1)), (1, .int (0 : Int32))]) [1, 0] rfl ?_
  obtain ⟨n9, h⟩ := h
  exact r_2 n9 (0 : Int32) M h
set_option maxRecDepth 100000 in
set_option maxHeartbeats 4000000 in
theorem m_WR_giveTurn {l : Launch} {D : va_G} {ta : Nat → ClassId} {base : Nat} {sa : Nat → Nat} {post : gMem → Prop} {a0 : Int32} {a1 : Int32} {M : gMem} (h : wp_WR_giveTurn post a0 a1 M) : GC gLay gCl D ta base gNw sa gTabs gTs l y_WR_giveTurn b_WR_giveTurn 3 none 0 0 [.ref (base + 19), .int a0, .int a1] M (gPv post) := by
  refine GC.of (own := "ObjectFile$Writer") pn_WR rfl (Nat.le_of_ble_eq_true rfl) ?_
  intro p e s m below meth c X hK hr hlk
  refine g_args (L' := [(0, .ref (base + 19)), (1, .int a0), (2, .int a1)]) rfl ?_
  unfold wp_WR_giveTurn at h
  refine g_iload_n X dWR_giveTurn_0 rfl 2 rfl ?_
  refine g_bipush X (v := (100 : Int32)) dWR_giveTurn_1 (by decide) ?_
  refine g_icmp_ge X dWR_giveTurn_3 (fun c => ?_) (fun c => ?_)
  · have h := h.1 c
    exact g_vret X hr hlk dWR_giveTurn_28 ⟨rfl, h⟩
  · have h := h.2 c
    refine g_iload_n X dWR_giveTurn_6 rfl 1 rfl ?_
    refine g_bipush X (v := (100 : Int32)) dWR_giveTurn_7 (by decide) ?_
    refine g_icmp_ge X dWR_giveTurn_9 (fun c => ?_) (fun c => ?_)
    · have h := h.1 c
      exact g_vret X hr hlk dWR_giveTurn_28 ⟨rfl, h⟩
    · have h := h.2 c
      refine g_aload_n X dWR_giveTurn_12 rfl 0 rfl ?_
      refine g_getr X hK.1 fw_WR_38 ly_19 rfl dWR_giveTurn_13 ?_
      refine g_iload_n X dWR_giveTurn_16 rfl 2 rfl ?_
      refine g_iload_n X dWR_giveTurn_17 rfl 1 rfl ?_
      obtain ⟨hi, h⟩ := h
      refine g_iast X hK.1 ly_29 hi dWR_giveTurn_18 ?_
      refine g_topM (fun M1 eM1 => ?_)
      have h := h M1 eM1
      refine g_aload_n X dWR_giveTurn_19 rfl 0 rfl ?_
      refine g_getr X hK.1 fw_WR_41 ly_19 rfl dWR_giveTurn_20 ?_
      refine g_iload_n X dWR_giveTurn_23 rfl 1 rfl ?_
      refine g_iload_n X dWR_giveTurn_24 rfl 2 rfl ?_
      refine g_iconst X (v := (1 : Int32)) dWR_giveTurn_25 (by decide) ?_
      refine g_iadd X dWR_giveTurn_26 ?_
      obtain ⟨hi, h⟩ := h
      refine g_iast X hK.1 ly_30 hi dWR_giveTurn_27 ?_
      refine g_topM (fun M2 eM2 => ?_)
      have h := h M2 eM2
      exact g_vret X hr hlk dWR_giveTurn_28 ⟨rfl, h⟩
set_option maxRecDepth 100000 in
set_option maxHeartbeats 4000000 in
theorem m_WR_orderSymbols {l : Launch} {D : va_G} {ta : Nat → ClassId} {base : Nat} {sa : Nat → Nat} {post : gMem → Prop} {M : gMem} (h : wp_WR_orderSymbols post M) : GC gLay gCl D ta base gNw sa gTabs gTs l y_WR_orderSymbols b_WR_orderSymbols 3 none 1 22 [.ref (base + 19)] M (gPv post) := by
  refine GC.of (own := "ObjectFile$Writer") pn_WR rfl (Nat.le_of_ble_eq_true rfl) ?_
  intro p e s m below meth c X hK hr hlk
  have r_49 : ∀ (n : Nat) (v1 : Int32) (v2 : Int32) (M : gMem), wl_WR_orderSymbols_49 post n v1 v2 M → GMx D ta base p l e 1 22 s m [.ref (base + 19)] below meth c (gPv post) 3 49 [(0, .ref (base + 19)), (1, .int v1), (2, .int v2)] [] M := by
    intro n
    induction n with
    | zero => exact fun _ _ M h => h.elim
    | succ n ih =>
      intro v1 v2 M h
      refine g_iload_n X dWR_orderSymbols_49 rfl 2 rfl ?_
      refine g_aload_n X dWR_orderSymbols_50 rfl 0 rfl ?_
      refine g_getr X hK.1 fw_WR_47 ly_19 rfl dWR_orderSymbols_51 ?_
      refine g_getiN X hK.1 (gNw_of hK) fw_WR_104 ly_1 rfl dWR_orderSymbols_54 ?_
      refine g_icmp_ge X dWR_orderSymbols_57 (fun c => ?_) (fun c => ?_)
      · have h := h.1 c
        exact g_vret X hr hlk dWR_orderSymbols_87 ⟨rfl, h⟩
      · have h := h.2 c
        refine g_aload_n X dWR_orderSymbols_60 rfl 0 rfl ?_
        refine g_getr X hK.1 fw_WR_47 ly_19 rfl dWR_orderSymbols_61 ?_
        refine g_iload_n X dWR_orderSymbols_64 rfl 2 rfl ?_
        refine g_iconst X (v := (3 : Int32)) dWR_orderSymbols_65 (by decide) ?_
        refine g_callVN X hK gTs_ok ly_1 rfl mw_CT_symbolFact nw_406 mi_CT_symbolFact ms_CT_symbolFact (As := [.int v2, .int (3 : Int32)]) rfl ⟨(Nat.le_of_ble_eq_true rfl), (Nat.le_of_ble_eq_true rfl), Nat.le_refl _, Nat.le_refl _⟩ (m_CT_symbolFact_m h) (rest := []) rfl (Nat.le_of_ble_eq_true rfl) dWR_orderSymbols_66 (gk_i (fun r2 M3 h => ?_))
        refine g_if_eq X dWR_orderSymbols_69 (fun c => ?_) (fun c => ?_)
        · have h := h.1 c
          obtain ⟨x4, ex4⟩ : ∃ z : Int32, z = v2 + (1 : Int32) := ⟨_, rfl⟩
          have h := h x4 ex4
          refine g_iinc X (L' := [(2, .int x4), (0, .ref (base + 19)), (1, .int v1)]) (k := 2) dWR_orderSymbols_81 rfl (v := x4) (by rw [ex4]; rfl) (Nat.le_of_ble_eq_true rfl) rfl ?_
          refine g_goto X dWR_orderSymbols_84 ?_
          refine g_sub (L' := [(0, .ref (base + 19)), (1, .int v1), (2, .int x4)]) [1, 2, 0] rfl ?_
          exact ih v1 x4 M3 h
        · have h := h.2 c
          refine g_aload_n X dWR_orderSymbols_72 rfl 0 rfl ?_
          refine g_iload_n X dWR_orderSymbols_73 rfl 2 rfl ?_
          refine g_iload_n X dWR_orderSymbols_74 rfl 1 rfl ?_
          refine g_callV X hK gTs_ok ly_19 rfl mw_WR_giveTurn tw_407 mi_WR_giveTurn ms_WR_giveTurn (As := [.int v2, .int v1]) rfl ⟨(Nat.le_of_ble_eq_true rfl), (Nat.le_of_ble_eq_true rfl), Nat.le_refl _, Nat.le_refl _⟩ (m_WR_giveTurn h) (rest := []) rfl (Nat.le_of_ble_eq_true rfl) dWR_orderSymbols_75 (gk_v (fun M6 h => ?_))
          obtain ⟨x7, ex7⟩ : ∃ z : Int32, z = v1 + (1 : Int32) := ⟨_, rfl⟩
          have h := h x7 ex7
          refine g_iinc X (L' := [(1, .int x7), (0, .ref (base + 19)), (2, .int v2)]) (k := 1) dWR_orderSymbols_78 rfl (v := x7) (by rw [ex7]; rfl) (Nat.le_of_ble_eq_true rfl) rfl ?_
          obtain ⟨x8, ex8⟩ : ∃ z : Int32, z = v2 + (1 : Int32) := ⟨_, rfl⟩
          have h := h x8 ex8
          refine g_iinc X (L' := [(2, .int x8), (1, .int x7), (0, .ref (base + 19))]) (k := 2) dWR_orderSymbols_81 rfl (v := x8) (by rw [ex8]; rfl) (Nat.le_of_ble_eq_true rfl) rfl ?_
          refine g_goto X dWR_orderSymbols_84 ?_
          refine g_sub (L' := [(0, .ref (base + 19)), (1, .int x7), (2, .int x8)]) [2, 1, 0] rfl ?_
          exact ih x7 x8 M6 h
  have r_4 : ∀ (n : Nat) (v1 : Int32) (v2 : Int32) (M : gMem), wl_WR_orderSymbols_4 post n v1 v2 M → GMx D ta base p l e 1 22 s m [.ref (base + 19)] below meth c (gPv post) 3 4 [(0, .ref (base + 19)), (1, .int v1), (2, .int v2)] [] M := by
    intro n
    induction n with
    | zero => exact fun _ _ M h => h.elim
    | succ n ih =>
      intro v1 v2 M h
      refine g_iload_n X dWR_orderSymbols_4 rfl 2 rfl ?_
      refine g_aload_n X dWR_orderSymbols_5 rfl 0 rfl ?_
      refine g_getr X hK.1 fw_WR_47 ly_19 rfl dWR_orderSymbols_6 ?_
      refine g_getiN X hK.1 (gNw_of hK) fw_WR_104 ly_1 rfl dWR_orderSymbols_9 ?_
      refine g_icmp_ge X dWR_orderSymbols_12 (fun c => ?_) (fun c => ?_)
      · have h := h.1 c
        refine g_aload_n X dWR_orderSymbols_42 rfl 0 rfl ?_
        refine g_iload_n X dWR_orderSymbols_43 rfl 1 rfl ?_
        refine g_puti X hK.1 fw_WR_115 pw_WR_12 ly_19 rfl dWR_orderSymbols_44 ?_
        refine g_topM (fun M1 eM1 => ?_)
        have h := h M1 eM1
        refine g_iconst X (v := (0 : Int32)) dWR_orderSymbols_47 (by decide) ?_
        refine g_istore_n X (L' := [(2, .int (0 : Int32)), (0, .ref (base + 19)), (1, .int v1)]) dWR_orderSymbols_48 rfl (Nat.le_of_ble_eq_true rfl) rfl ?_
        refine g_sub (L' := [(0, .ref (base + 19)), (1, .int v1), (2, .int (0 : Int32))]) [1, 2, 0] rfl ?_
        obtain ⟨n9, h⟩ := h
        exact r_49 n9 v1 (0 : Int32) M1 h
      · have h := h.2 c
        refine g_aload_n X dWR_orderSymbols_15 rfl 0 rfl ?_
        refine g_getr X hK.1 fw_WR_47 ly_19 rfl dWR_orderSymbols_16 ?_
        refine g_iload_n X dWR_orderSymbols_19 rfl 2 rfl ?_
        refine g_iconst X (v := (3 : Int32)) dWR_orderSymbols_20 (by decide) ?_
        refine g_callVN X hK gTs_ok ly_1 rfl mw_CT_symbolFact nw_406 mi_CT_symbolFact ms_CT_symbolFact (As := [.int v2, .int (3 : Int32)]) rfl ⟨(Nat.le_of_ble_eq_true rfl), (Nat.le_of_ble_eq_true rfl), Nat.le_refl _, Nat.le_refl _⟩ (m_CT_symbolFact_m h) (rest := []) rfl (Nat.le_of_ble_eq_true rfl) dWR_orderSymbols_21 (gk_i (fun r9 M10 h => ?_))
        refine g_if_ne X dWR_orderSymbols_24 (fun c => ?_) (fun c => ?_)
        · have h := h.1 c
          obtain ⟨x11, ex11⟩ : ∃ z : Int32, z = v2 + (1 : Int32) := ⟨_, rfl⟩
          have h := h x11 ex11
          refine g_iinc X (L' := [(2, .int x11), (0, .ref (base + 19)), (1, .int v1)]) (k := 2) dWR_orderSymbols_36 rfl (v := x11) (by rw [ex11]; rfl) (Nat.le_of_ble_eq_true rfl) rfl ?_
          refine g_goto X dWR_orderSymbols_39 ?_
          refine g_sub (L' := [(0, .ref (base + 19)), (1, .int v1), (2, .int x11)]) [1, 2, 0] rfl ?_
          exact ih v1 x11 M10 h
        · have h := h.2 c
          refine g_aload_n X dWR_orderSymbols_27 rfl 0 rfl ?_
          refine g_iload_n X dWR_orderSymbols_28 rfl 2 rfl ?_
          refine g_iload_n X dWR_orderSymbols_29 rfl 1 rfl ?_
          refine g_callV X hK gTs_ok ly_19 rfl mw_WR_giveTurn tw_407 mi_WR_giveTurn ms_WR_giveTurn (As := [.int v2, .int v1]) rfl ⟨(Nat.le_of_ble_eq_true rfl), (Nat.le_of_ble_eq_true rfl), Nat.le_refl _, Nat.le_refl _⟩ (m_WR_giveTurn h) (rest := []) rfl (Nat.le_of_ble_eq_true rfl) dWR_orderSymbols_30 (gk_v (fun M13 h => ?_))
          obtain ⟨x14, ex14⟩ : ∃ z : Int32, z = v1 + (1 : Int32) := ⟨_, rfl⟩
          have h := h x14 ex14
          refine g_iinc X (L' := [(1, .int x14), (0, .ref (base + 19)), (2, .int v2)]) (k := 1) dWR_orderSymbols_33 rfl (v := x14) (by rw [ex14]; rfl) (Nat.le_of_ble_eq_true rfl) rfl ?_
          obtain ⟨x15, ex15⟩ : ∃ z : Int32, z = v2 + (1 : Int32) := ⟨_, rfl⟩
          have h := h x15 ex15
          refine g_iinc X (L' := [(2, .int x15), (1, .int x14), (0, .ref (base + 19))]) (k := 2) dWR_orderSymbols_36 rfl (v := x15) (by rw [ex15]; rfl) (Nat.le_of_ble_eq_true rfl) rfl ?_
          refine g_goto X dWR_orderSymbols_39 ?_
          refine g_sub (L' := [(0, .ref (base + 19)), (1, .int x14), (2, .int x15)]) [2, 1, 0] rfl ?_
          exact ih x14 x15 M13 h
  refine g_args (L' := [(0, .ref (base + 19))]) rfl ?_
  unfold wp_WR_orderSymbols at h
  refine g_iconst X (v := (0 : Int32)) dWR_orderSymbols_0 (by decide) ?_
  refine g_istore_n X (L' := [(1, .int (0 : Int32)), (0, .ref (base + 19))]) dWR_orderSymbols_1 rfl (Nat.le_of_ble_eq_true rfl) rfl ?_
  refine g_iconst X (v := (0 : Int32)) dWR_orderSymbols_2 (by decide) ?_
  refine g_istore_n X (L' := [(2, .int (0 : Int32)), (1, .int (0 : Int32)), (0, .ref (base + 19))]) dWR_orderSymbols_3 rfl (Nat.le_of_ble_eq_true rfl) rfl ?_
  refine g_sub (L' := [(0, .ref (base + 19)), (1, .int (0 : Int32)), (2, .int (0 : Int32))]) [2, 1, 0] rfl ?_
  obtain ⟨n9, h⟩ := h
  exact r_4 n9 (0 : Int32) (0 : Int32) M h
set_option maxRecDepth 100000 in
set_option maxHeartbeats 4000000 in
theorem m_ST_restart_n {l : Launch} {D : va_G} {ta : Nat → ClassId} {base : Nat} {sa : Nat → Nat} {post : gMem → Prop} {M : gMem} (h : wp_ST_restart_n post M) : GC gLay gCl D ta base gNw sa gTabs gTs l y_ST_restart b_ST_restart 1 none 0 0 [.ref (base + 20)] M (gPv post) := by
  refine GC.of (own := "ObjectFile$Strings") pn_ST rfl (Nat.le_of_ble_eq_true rfl) ?_
  intro p e s m below meth c X hK hr hlk
  refine g_args (L' := [(0, .ref (base + 20))]) rfl ?_
  unfold wp_ST_restart_n at h
  refine g_aload_n X dST_restart_0 rfl 0 rfl ?_
  refine g_getr X hK.1 fw_ST_9 ly_20 rfl dST_restart_1 ?_
  refine g_iconst X (v := (0 : Int32)) dST_restart_4 (by decide) ?_
  refine g_iconst X (v := (0 : Int32)) dST_restart_5 (by decide) ?_
  obtain ⟨hi, h⟩ := h
  refine g_bast X hK.1 ly_21 hi dST_restart_6 ?_
  refine g_topM (fun M1 eM1 => ?_)
  have h := h M1 eM1
  refine g_aload_n X dST_restart_7 rfl 0 rfl ?_
  refine g_iconst X (v := (1 : Int32)) dST_restart_8 (by decide) ?_
  refine g_puti X hK.1 fw_ST_15 pw_ST_1 ly_20 rfl dST_restart_9 ?_
  refine g_topM (fun M2 eM2 => ?_)
  have h := h M2 eM2
  exact g_vret X hr hlk dST_restart_12 ⟨rfl, h⟩
set_option maxRecDepth 100000 in
set_option maxHeartbeats 4000000 in
theorem m_ST_putBehind_n_7 {l : Launch} {D : va_G} {ta : Nat → ClassId} {base : Nat} {sa : Nat → Nat} {post : Int32 → gMem → Prop} {a1 : Int32} {a2 : Int32} {M : gMem} (h : wp_ST_putBehind_n_7 post a1 a2 M) : GC gLay gCl D ta base gNw sa gTabs gTs l y_ST_putBehind b_ST_putBehind 5 (some .int) 1 18 [.ref (base + 20), .ref (base + 7), .int a1, .int a2] M (gPi post) := by
  refine GC.of (own := "ObjectFile$Strings") pn_ST rfl (Nat.le_of_ble_eq_true rfl) ?_
  intro p e s m below meth c X hK hr hlk
  refine g_args (L' := [(0, .ref (base + 20)), (1, .ref (base + 7)), (2, .int a1), (3, .int a2)]) rfl ?_
  unfold wp_ST_putBehind_n_7 at h
  refine g_aload_n X dST_putBehind_0 rfl 0 rfl ?_
  refine g_geti X hK.1 fw_ST_15 ly_20 rfl dST_putBehind_1 ?_
  refine g_iload_n X dST_putBehind_4 rfl 3 rfl ?_
  refine g_iadd X dST_putBehind_5 ?_
  refine g_iconst X (v := (1 : Int32)) dST_putBehind_6 (by decide) ?_
  refine g_iadd X dST_putBehind_7 ?_
  refine g_sipush X (v := (1701 : Int32)) dST_putBehind_8 (by decide) ?_
  refine g_icmp_le X dST_putBehind_11 (fun c => ?_) (fun c => ?_)
  · have h := h.1 c
    refine g_aload_n X dST_putBehind_16 rfl 0 rfl ?_
    refine g_geti X hK.1 fw_ST_15 ly_20 rfl dST_putBehind_17 ?_
    refine g_topi (fun x1 ex1 => ?_)
    have h := h x1 ex1
    refine g_istore X (L' := [(4, .int x1), (0, .ref (base + 20)), (1, .ref (base + 7)), (2, .int a1), (3, .int a2)]) dST_putBehind_20 (Nat.le_of_ble_eq_true rfl) rfl ?_
    refine g_aload_n X dST_putBehind_22 rfl 2 rfl ?_
    refine g_iload_n X dST_putBehind_23 rfl 3 rfl ?_
    refine g_aload_n X dST_putBehind_24 rfl 1 rfl ?_
    refine g_getr X hK.1 fw_ST_9 ly_20 rfl dST_putBehind_25 ?_
    refine g_iload X dST_putBehind_28 0 rfl ?_
    refine g_iload_n X dST_putBehind_30 rfl 4 rfl ?_
    obtain ⟨q1, q2, q3, q4, q5, q6, h⟩ := h
    refine g_copyb X hK.1 tw_431 tw_351 tw_350 tw_11 ly_7 ly_21 q1 q2 q3 q4 q5 q6 (Nat.le_of_ble_eq_true rfl) (Nat.le_of_ble_eq_true rfl) dST_putBehind_31 ?_
    refine g_topM (fun M2 eM2 => ?_)
    have h := h M2 eM2
    refine g_aload_n X dST_putBehind_34 rfl 1 rfl ?_
    refine g_getr X hK.1 fw_ST_9 ly_20 rfl dST_putBehind_35 ?_
    refine g_iload X dST_putBehind_38 0 rfl ?_
    refine g_iload_n X dST_putBehind_40 rfl 4 rfl ?_
    refine g_iadd X dST_putBehind_41 ?_
    refine g_iconst X (v := (0 : Int32)) dST_putBehind_42 (by decide) ?_
    obtain ⟨hi, h⟩ := h
    refine g_bast X hK.1 ly_21 hi dST_putBehind_43 ?_
    refine g_topM (fun M3 eM3 => ?_)
    have h := h M3 eM3
    refine g_aload_n X dST_putBehind_44 rfl 1 rfl ?_
    refine g_iload X dST_putBehind_45 0 rfl ?_
    refine g_iload_n X dST_putBehind_47 rfl 4 rfl ?_
    refine g_iadd X dST_putBehind_48 ?_
    refine g_iconst X (v := (1 : Int32)) dST_putBehind_49 (by decide) ?_
    refine g_iadd X dST_putBehind_50 ?_
    refine g_puti X hK.1 fw_ST_15 pw_ST_1 ly_20 rfl dST_putBehind_51 ?_
    refine g_topM (fun M4 eM4 => ?_)
    have h := h M4 eM4
    refine g_iload X dST_putBehind_54 0 rfl ?_
    exact g_iret X hr hlk dST_putBehind_56 ⟨_, rfl, h⟩
  · have h := h.2 c
    refine g_iconst X (v := (0 : Int32)) dST_putBehind_14 (by decide) ?_
    exact g_iret X hr hlk dST_putBehind_15 ⟨_, rfl, h⟩
set_option maxRecDepth 100000 in
set_option maxHeartbeats 4000000 in
theorem m_ST_standsAt_n_7 {l : Launch} {D : va_G} {ta : Nat → ClassId} {base : Nat} {sa : Nat → Nat} {post : Bool → gMem → Prop} {a0 : Int32} {a2 : Int32} {a3 : Int32} {M : gMem} (h : wp_ST_standsAt_n_7 post a0 a2 a3 M) : GC gLay gCl D ta base gNw sa gTabs gTs l y_ST_standsAt b_ST_standsAt 6 (some .boolean) 0 0 [.ref (base + 20), .int a0, .ref (base + 7), .int a2, .int a3] M (gPz post) := by
  refine GC.of (own := "ObjectFile$Strings") pn_ST rfl (Nat.le_of_ble_eq_true rfl) ?_
  intro p e s m below meth c X hK hr hlk
  have r_3 : ∀ (n : Nat) (v1 : Int32) (v3 : Int32) (v4 : Int32) (v5 : Int32) (M : gMem), wl_ST_standsAt_n_7_3 post n v1 v3 v4 v5 M → GMx D ta base p l e 0 0 s m [.ref (base + 20), .int a0, .ref (base + 7), .int a2, .int a3] below meth c (gPz post) 6 3 [(0, .ref (base + 20)), (1, .int v1), (2, .ref (base + 7)), (3, .int v3), (4, .int v4), (5, .int v5)] [] M := by
    intro n
    induction n with
    | zero => exact fun _ _ _ _ M h => h.elim
    | succ n ih =>
      intro v1 v3 v4 v5 M h
      refine g_iload X dST_standsAt_3 5 rfl ?_
      refine g_iload X dST_standsAt_5 4 rfl ?_
      refine g_icmp_ge X dST_standsAt_7 (fun c => ?_) (fun c => ?_)
      · have h := h.1 c
        refine g_iconst X (v := (1 : Int32)) dST_standsAt_36 (by decide) ?_
        exact g_zret X hr hlk (by decide) dST_standsAt_37 ⟨true, rfl, h⟩
      · have h := h.2 c
        refine g_aload_n X dST_standsAt_10 rfl 0 rfl ?_
        refine g_getr X hK.1 fw_ST_9 ly_20 rfl dST_standsAt_11 ?_
        refine g_iload_n X dST_standsAt_14 rfl 1 rfl ?_
        refine g_iload X dST_standsAt_15 5 rfl ?_
        refine g_iadd X dST_standsAt_17 ?_
        obtain ⟨hi, h⟩ := h
        refine g_bald X hK.1 ly_21 hi dST_standsAt_18 ?_
        refine g_aload_n X dST_standsAt_19 rfl 2 rfl ?_
        refine g_iload_n X dST_standsAt_20 rfl 3 rfl ?_
        refine g_iload X dST_standsAt_21 5 rfl ?_
        refine g_iadd X dST_standsAt_23 ?_
        obtain ⟨hi, h⟩ := h
        refine g_bald X hK.1 ly_7 hi dST_standsAt_24 ?_
        refine g_icmp_eq X dST_standsAt_25 (fun c => ?_) (fun c => ?_)
        · have h := h.1 c
          obtain ⟨x1, ex1⟩ : ∃ z : Int32, z = v5 + (1 : Int32) := ⟨_, rfl⟩
          have h := h x1 ex1
          refine g_iinc X (L' := [(5, .int x1), (0, .ref (base + 20)), (1, .int v1), (2, .ref (base + 7)), (3, .int v3), (4, .int v4)]) (k := 5) dST_standsAt_30 rfl (v := x1) (by rw [ex1]; rfl) (Nat.le_of_ble_eq_true rfl) rfl ?_
          refine g_goto X dST_standsAt_33 ?_
          refine g_sub (L' := [(0, .ref (base + 20)), (1, .int v1), (2, .ref (base + 7)), (3, .int v3), (4, .int v4), (5, .int x1)]) [1, 2, 3, 4, 5, 0] rfl ?_
          exact ih v1 v3 v4 x1 M h
        · have h := h.2 c
          refine g_iconst X (v := (0 : Int32)) dST_standsAt_28 (by decide) ?_
          exact g_zret X hr hlk (by decide) dST_standsAt_29 ⟨false, rfl, h⟩
  refine g_args (L' := [(0, .ref (base + 20)), (1, .int a0), (2, .ref (base + 7)), (3, .int a2), (4, .int a3)]) rfl ?_
  unfold wp_ST_standsAt_n_7 at h
  refine g_iconst X (v := (0 : Int32)) dST_standsAt_0 (by decide) ?_
  refine g_istore X (L' := [(5, .int (0 : Int32)), (0, .ref (base + 20)), (1, .int a0), (2, .ref (base + 7)), (3, .int a2), (4, .int a3)]) dST_standsAt_1 (Nat.le_of_ble_eq_true rfl) rfl ?_
  refine g_sub (L' := [(0, .ref (base + 20)), (1, .int a0), (2, .ref (base + 7)), (3, .int a2), (4, .int a3), (5, .int (0 : Int32))]) [1, 2, 3, 4, 5, 0] rfl ?_
  obtain ⟨n9, h⟩ := h
  exact r_3 n9 a0 a2 a3 (0 : Int32) M h
set_option maxRecDepth 100000 in
set_option maxHeartbeats 4000000 in
theorem m_ST_placeOf_n_7 {l : Launch} {D : va_G} {ta : Nat → ClassId} {base : Nat} {sa : Nat → Nat} {post : Int32 → gMem → Prop} {a1 : Int32} {a2 : Int32} {M : gMem} (h : wp_ST_placeOf_n_7 post a1 a2 M) : GC gLay gCl D ta base gNw sa gTabs gTs l y_ST_placeOf b_ST_placeOf 5 (some .int) 2 42 [.ref (base + 20), .ref (base + 7), .int a1, .int a2] M (gPi post) := by
  refine GC.of (own := "ObjectFile$Strings") pn_ST rfl (Nat.le_of_ble_eq_true rfl) ?_
  intro p e s m below meth c X hK hr hlk
  have r_22 : ∀ (n : Nat) (v2 : Int32) (v3 : Int32) (v4 : Int32) (M : gMem), wl_ST_placeOf_n_7_22 post n v2 v3 v4 M → GMx D ta base p l e 2 42 s m [.ref (base + 20), .ref (base + 7), .int a1, .int a2] below meth c (gPi post) 5 22 [(0, .ref (base + 20)), (1, .ref (base + 7)), (2, .int v2), (3, .int v3), (4, .int v4)] [] M := by
    intro n
    induction n with
    | zero => exact fun _ _ _ M h => h.elim
    | succ n ih =>
      intro v2 v3 v4 M h
      refine g_iload X dST_placeOf_22 4 rfl ?_
      refine g_aload_n X dST_placeOf_24 rfl 0 rfl ?_
      refine g_geti X hK.1 fw_ST_15 ly_20 rfl dST_placeOf_25 ?_
      refine g_iload_n X dST_placeOf_28 rfl 3 rfl ?_
      refine g_isub X dST_placeOf_29 ?_
      refine g_icmp_ge X dST_placeOf_30 (fun c => ?_) (fun c => ?_)
      · have h := h.1 c
        refine g_aload_n X dST_placeOf_66 rfl 0 rfl ?_
        refine g_aload_n X dST_placeOf_67 rfl 1 rfl ?_
        refine g_iload_n X dST_placeOf_68 rfl 2 rfl ?_
        refine g_iload_n X dST_placeOf_69 rfl 3 rfl ?_
        refine g_callV X hK gTs_ok ly_20 rfl mw_ST_putBehind tw_427 mi_ST_putBehind ms_ST_putBehind (As := [.ref (base + 7), .int v2, .int v3]) rfl ⟨(Nat.le_of_ble_eq_true rfl), (Nat.le_of_ble_eq_true rfl), Nat.le_refl _, Nat.le_refl _⟩ (m_ST_putBehind_n_7 h) (rest := []) rfl (Nat.le_of_ble_eq_true rfl) dST_placeOf_70 (gk_i (fun r1 M2 h => ?_))
        exact g_iret X hr hlk dST_placeOf_73 ⟨_, rfl, h⟩
      · have h := h.2 c
        refine g_aload_n X dST_placeOf_33 rfl 0 rfl ?_
        refine g_getr X hK.1 fw_ST_9 ly_20 rfl dST_placeOf_34 ?_
        refine g_iload X dST_placeOf_37 4 rfl ?_
        refine g_iload_n X dST_placeOf_39 rfl 3 rfl ?_
        refine g_iadd X dST_placeOf_40 ?_
        obtain ⟨hi, h⟩ := h
        refine g_bald X hK.1 ly_21 hi dST_placeOf_41 ?_
        refine g_if_ne X dST_placeOf_42 (fun c => ?_) (fun c => ?_)
        · have h := h.1 c
          obtain ⟨x3, ex3⟩ : ∃ z : Int32, z = v4 + (1 : Int32) := ⟨_, rfl⟩
          have h := h x3 ex3
          refine g_iinc X (L' := [(4, .int x3), (0, .ref (base + 20)), (1, .ref (base + 7)), (2, .int v2), (3, .int v3)]) (k := 4) dST_placeOf_60 rfl (v := x3) (by rw [ex3]; rfl) (Nat.le_of_ble_eq_true rfl) rfl ?_
          refine g_goto X dST_placeOf_63 ?_
          refine g_sub (L' := [(0, .ref (base + 20)), (1, .ref (base + 7)), (2, .int v2), (3, .int v3), (4, .int x3)]) [1, 2, 3, 4, 0] rfl ?_
          exact ih v2 v3 x3 M h
        · have h := h.2 c
          refine g_aload_n X dST_placeOf_45 rfl 0 rfl ?_
          refine g_iload X dST_placeOf_46 4 rfl ?_
          refine g_aload_n X dST_placeOf_48 rfl 1 rfl ?_
          refine g_iload_n X dST_placeOf_49 rfl 2 rfl ?_
          refine g_iload_n X dST_placeOf_50 rfl 3 rfl ?_
          refine g_callV X hK gTs_ok ly_20 rfl mw_ST_standsAt tw_423 mi_ST_standsAt ms_ST_standsAt (As := [.int v4, .ref (base + 7), .int v2, .int v3]) rfl ⟨(Nat.le_of_ble_eq_true rfl), (Nat.le_of_ble_eq_true rfl), Nat.le_refl _, Nat.le_refl _⟩ (m_ST_standsAt_n_7 h) (rest := []) rfl (Nat.le_of_ble_eq_true rfl) dST_placeOf_51 (gk_z (fun r4 M5 h => ?_))
          refine g_if_eq X dST_placeOf_54 (fun c => ?_) (fun c => ?_)
          · have h := h.1 c
            obtain ⟨x6, ex6⟩ : ∃ z : Int32, z = v4 + (1 : Int32) := ⟨_, rfl⟩
            have h := h x6 ex6
            refine g_iinc X (L' := [(4, .int x6), (0, .ref (base + 20)), (1, .ref (base + 7)), (2, .int v2), (3, .int v3)]) (k := 4) dST_placeOf_60 rfl (v := x6) (by rw [ex6]; rfl) (Nat.le_of_ble_eq_true rfl) rfl ?_
            refine g_goto X dST_placeOf_63 ?_
            refine g_sub (L' := [(0, .ref (base + 20)), (1, .ref (base + 7)), (2, .int v2), (3, .int v3), (4, .int x6)]) [1, 2, 3, 4, 0] rfl ?_
            exact ih v2 v3 x6 M5 h
          · have h := h.2 c
            refine g_iload X dST_placeOf_57 4 rfl ?_
            exact g_iret X hr hlk dST_placeOf_59 ⟨_, rfl, h⟩
  refine g_args (L' := [(0, .ref (base + 20)), (1, .ref (base + 7)), (2, .int a1), (3, .int a2)]) rfl ?_
  unfold wp_ST_placeOf_n_7 at h
  refine g_iload_n X dST_placeOf_0 rfl 3 rfl ?_
  refine g_iconst X (v := (1 : Int32)) dST_placeOf_1 (by decide) ?_
  refine g_icmp_lt X dST_placeOf_2 (fun c => ?_) (fun c => ?_)
  · have h := h.1 c
    refine g_iconst X (v := (0 : Int32)) dST_placeOf_17 (by decide) ?_
    exact g_iret X hr hlk dST_placeOf_18 ⟨_, rfl, h⟩
  · have h := h.2 c
    refine g_iload_n X dST_placeOf_5 rfl 2 rfl ?_
    refine g_if_lt X dST_placeOf_6 (fun c => ?_) (fun c => ?_)
    · have h := h.1 c
      refine g_iconst X (v := (0 : Int32)) dST_placeOf_17 (by decide) ?_
      exact g_iret X hr hlk dST_placeOf_18 ⟨_, rfl, h⟩
    · have h := h.2 c
      refine g_iload_n X dST_placeOf_9 rfl 2 rfl ?_
      refine g_aload_n X dST_placeOf_10 rfl 1 rfl ?_
      refine g_alen X hK.1 ly_7 (by decide) (v := (1600 : Int32)) (by decide) dST_placeOf_11 ?_
      refine g_iload_n X dST_placeOf_12 rfl 3 rfl ?_
      refine g_isub X dST_placeOf_13 ?_
      refine g_icmp_le X dST_placeOf_14 (fun c => ?_) (fun c => ?_)
      · have h := h.1 c
        refine g_iconst X (v := (1 : Int32)) dST_placeOf_19 (by decide) ?_
        refine g_istore X (L' := [(4, .int (1 : Int32)), (0, .ref (base + 20)), (1, .ref (base + 7)), (2, .int a1), (3, .int a2)]) dST_placeOf_20 (Nat.le_of_ble_eq_true rfl) rfl ?_
        refine g_sub (L' := [(0, .ref (base + 20)), (1, .ref (base + 7)), (2, .int a1), (3, .int a2), (4, .int (1 : Int32))]) [1, 2, 3, 4, 0] rfl ?_
        obtain ⟨n9, h⟩ := h
        exact r_22 n9 a1 a2 (1 : Int32) M h
      · have h := h.2 c
        refine g_iconst X (v := (0 : Int32)) dST_placeOf_17 (by decide) ?_
        exact g_iret X hr hlk dST_placeOf_18 ⟨_, rfl, h⟩
