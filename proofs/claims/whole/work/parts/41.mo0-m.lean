set_option maxRecDepth 100000 in
set_option maxHeartbeats 4000000 in
theorem m_MO_clear {l : Launch} {D : va_G} {ta : Nat → ClassId} {base : Nat} {sa : Nat → Nat} {post : gMem → Prop} {M : gMem} (h : wp_MO_clear post M) : GC gLay gCl D ta base gNw sa gTabs gTs l y_MO_clear b_MO_clear 2 none 0 0 [.ref (base + 41)] M (gPv post) := by
  refine GC.of (own := "ObjectFileModel") pn_MO rfl (Nat.le_of_ble_eq_true rfl) ?_
  intro p e s m below meth c X hK hr hlk
  have r_2 : ∀ (n : Nat) (v1 : Int32) (M : gMem), wl_MO_clear_2 post n v1 M → GMx D ta base p l e 0 0 s m [.ref (base + 41)] below meth c (gPv post) 2 2 [(0, .ref (base + 41)), (1, .int v1)] [] M := by
    intro n
    induction n with
    | zero => exact fun _ M h => h.elim
    | succ n ih =>
      intro v1 M h
      refine g_iload_n X dMO_clear_2 rfl 1 rfl ?_
      refine g_iconst X (v := (4 : Int32)) dMO_clear_3 (by decide) ?_
      refine g_icmp_ge X dMO_clear_4 (fun c => ?_) (fun c => ?_)
      · have h := h.1 c
        refine g_aload_n X dMO_clear_27 rfl 0 rfl ?_
        refine g_getr X hK.1 fw_MO_22 ly_41 rfl dMO_clear_28 ?_
        refine g_iconst X (v := (0 : Int32)) dMO_clear_31 (by decide) ?_
        refine g_iconst X (v := (0 : Int32)) dMO_clear_32 (by decide) ?_
        obtain ⟨hi, h⟩ := h
        refine g_iast X hK.1 ly_46 hi dMO_clear_33 ?_
        refine g_topM (fun M1 eM1 => ?_)
        have h := h M1 eM1
        refine g_aload_n X dMO_clear_34 rfl 0 rfl ?_
        refine g_getr X hK.1 fw_MO_46 ly_41 rfl dMO_clear_35 ?_
        refine g_iconst X (v := (0 : Int32)) dMO_clear_38 (by decide) ?_
        refine g_iconst X (v := (0 : Int32)) dMO_clear_39 (by decide) ?_
        obtain ⟨hi, h⟩ := h
        refine g_iast X hK.1 ly_54 hi dMO_clear_40 ?_
        refine g_topM (fun M2 eM2 => ?_)
        have h := h M2 eM2
        refine g_aload_n X dMO_clear_41 rfl 0 rfl ?_
        refine g_getr X hK.1 fw_MO_64 ly_41 rfl dMO_clear_42 ?_
        refine g_iconst X (v := (0 : Int32)) dMO_clear_45 (by decide) ?_
        refine g_iconst X (v := (0 : Int32)) dMO_clear_46 (by decide) ?_
        obtain ⟨hi, h⟩ := h
        refine g_iast X hK.1 ly_60 hi dMO_clear_47 ?_
        refine g_topM (fun M3 eM3 => ?_)
        have h := h M3 eM3
        refine g_aload_n X dMO_clear_48 rfl 0 rfl ?_
        refine g_iconst X (v := (0 : Int32)) dMO_clear_49 (by decide) ?_
        refine g_puti X hK.1 fw_MO_134 pw_MO_20 ly_41 rfl dMO_clear_50 ?_
        refine g_topM (fun M4 eM4 => ?_)
        have h := h M4 eM4
        exact g_vret X hr hlk dMO_clear_53 ⟨rfl, h⟩
      · have h := h.2 c
        refine g_aload_n X dMO_clear_7 rfl 0 rfl ?_
        refine g_getr X hK.1 fw_MO_13 ly_41 rfl dMO_clear_8 ?_
        refine g_iload_n X dMO_clear_11 rfl 1 rfl ?_
        refine g_iconst X (v := (0 : Int32)) dMO_clear_12 (by decide) ?_
        obtain ⟨hi, h⟩ := h
        refine g_iast X hK.1 ly_43 hi dMO_clear_13 ?_
        refine g_topM (fun M5 eM5 => ?_)
        have h := h M5 eM5
        refine g_aload_n X dMO_clear_14 rfl 0 rfl ?_
        refine g_getr X hK.1 fw_MO_16 ly_41 rfl dMO_clear_15 ?_
        refine g_iload_n X dMO_clear_18 rfl 1 rfl ?_
        refine g_iconst X (v := (1 : Int32)) dMO_clear_19 (by decide) ?_
        obtain ⟨hi, h⟩ := h
        refine g_iast X hK.1 ly_44 hi dMO_clear_20 ?_
        refine g_topM (fun M6 eM6 => ?_)
        have h := h M6 eM6
        obtain ⟨x7, ex7⟩ : ∃ z : Int32, z = v1 + (1 : Int32) := ⟨_, rfl⟩
        have h := h x7 ex7
        refine g_iinc X (L' := [(1, .int x7), (0, .ref (base + 41))]) (k := 1) dMO_clear_21 rfl (v := x7) (by rw [ex7]; rfl) (Nat.le_of_ble_eq_true rfl) rfl ?_
        refine g_goto X dMO_clear_24 ?_
        refine g_sub (L' := [(0, .ref (base + 41)), (1, .int x7)]) [1, 0] rfl ?_
        exact ih x7 M6 h
  refine g_args (L' := [(0, .ref (base + 41))]) rfl ?_
  unfold wp_MO_clear at h
  refine g_iconst X (v := (0 : Int32)) dMO_clear_0 (by decide) ?_
  refine g_istore_n X (L' := [(1, .int (0 : Int32)), (0, .ref (base + 41))]) dMO_clear_1 rfl (Nat.le_of_ble_eq_true rfl) rfl ?_
  refine g_sub (L' := [(0, .ref (base + 41)), (1, .int (0 : Int32))]) [1, 0] rfl ?_
  obtain ⟨n9, h⟩ := h
  exact r_2 n9 (0 : Int32) M h
set_option maxRecDepth 100000 in
set_option maxHeartbeats 4000000 in
theorem m_MO_byteOf {l : Launch} {D : va_G} {ta : Nat → ClassId} {base : Nat} {sa : Nat → Nat} {post : Int32 → gMem → Prop} {a0 : Int64} {a1 : Int32} {M : gMem} (h : wp_MO_byteOf post a0 a1 M) : GC gLay gCl D ta base gNw sa gTabs gTs l y_MO_byteOf b_MO_byteOf 3 (some .int) 0 0 [.long a0, .int a1] M (gPi post) := by
  refine GC.of (own := "ObjectFileModel") pn_MO rfl (Nat.le_of_ble_eq_true rfl) ?_
  intro p e s m below meth c X hK hr hlk
  refine g_args (L' := [(0, .long a0), (2, .int a1)]) rfl ?_
  unfold wp_MO_byteOf at h
  refine g_lload_n X dMO_byteOf_0 rfl 0 rfl ?_
  refine g_bipush X (v := (56 : Int32)) dMO_byteOf_1 (by decide) ?_
  refine g_bipush X (v := (8 : Int32)) dMO_byteOf_3 (by decide) ?_
  refine g_iload_n X dMO_byteOf_5 rfl 1 rfl ?_
  refine g_imul X dMO_byteOf_6 ?_
  refine g_isub X dMO_byteOf_7 ?_
  refine g_lshr X dMO_byteOf_8 rfl ?_
  refine g_ldc2 X (v := (255 : Int64)) (tw_1071) dMO_byteOf_9 ?_
  refine g_land X dMO_byteOf_12 ?_
  refine g_l2i X dMO_byteOf_13 rfl ?_
  exact g_iret X hr hlk dMO_byteOf_14 ⟨_, rfl, h⟩
set_option maxRecDepth 100000 in
set_option maxHeartbeats 4000000 in
theorem m_MO_put {l : Launch} {D : va_G} {ta : Nat → ClassId} {base : Nat} {sa : Nat → Nat} {post : Bool → gMem → Prop} {a0 : Int32} {a1 : Int32} {a2 : Int64} {M : gMem} (h : wp_MO_put post a0 a1 a2 M) : GC gLay gCl D ta base gNw sa gTabs gTs l y_MO_put b_MO_put 6 (some .boolean) 1 22 [.ref (base + 41), .int a0, .int a1, .long a2] M (gPz post) := by
  refine GC.of (own := "ObjectFileModel") pn_MO rfl (Nat.le_of_ble_eq_true rfl) ?_
  intro p e s m below meth c X hK hr hlk
  have r_39 : ∀ (n : Nat) (v1 : Int32) (v2 : Int32) (v3 : Int64) (v5 : Int32) (M : gMem), wl_MO_put_39 post n v1 v2 v3 v5 M → GMx D ta base p l e 1 22 s m [.ref (base + 41), .int a0, .int a1, .long a2] below meth c (gPz post) 6 39 [(0, .ref (base + 41)), (1, .int v1), (2, .int v2), (3, .long v3), (5, .int v5)] [] M := by
    intro n
    induction n with
    | zero => exact fun _ _ _ _ M h => h.elim
    | succ n ih =>
      intro v1 v2 v3 v5 M h
      refine g_iload X dMO_put_39 4 rfl ?_
      refine g_iload_n X dMO_put_41 rfl 2 rfl ?_
      refine g_icmp_ge X dMO_put_42 (fun c => ?_) (fun c => ?_)
      · have h := h.1 c
        refine g_aload_n X dMO_put_77 rfl 0 rfl ?_
        refine g_getr X hK.1 fw_MO_13 ly_41 rfl dMO_put_78 ?_
        refine g_iload_n X dMO_put_81 rfl 1 rfl ?_
        refine g_dup2_11 X dMO_put_82 rfl rfl ?_
        obtain ⟨hi, h⟩ := h
        refine g_iald X hK.1 ly_43 hi dMO_put_83 ?_
        refine g_iload_n X dMO_put_84 rfl 2 rfl ?_
        refine g_iadd X dMO_put_85 ?_
        obtain ⟨hi, h⟩ := h
        refine g_iast X hK.1 ly_43 hi dMO_put_86 ?_
        refine g_topM (fun M1 eM1 => ?_)
        have h := h M1 eM1
        refine g_iconst X (v := (1 : Int32)) dMO_put_87 (by decide) ?_
        exact g_zret X hr hlk (by decide) dMO_put_88 ⟨true, rfl, h⟩
      · have h := h.2 c
        refine g_aload_n X dMO_put_45 rfl 0 rfl ?_
        refine g_getr X hK.1 fw_MO_7 ly_41 rfl dMO_put_46 ?_
        refine g_sipush X (v := (2048 : Int32)) dMO_put_49 (by decide) ?_
        refine g_iload_n X dMO_put_52 rfl 1 rfl ?_
        refine g_imul X dMO_put_53 ?_
        refine g_aload_n X dMO_put_54 rfl 0 rfl ?_
        refine g_getr X hK.1 fw_MO_13 ly_41 rfl dMO_put_55 ?_
        refine g_iload_n X dMO_put_58 rfl 1 rfl ?_
        obtain ⟨hi, h⟩ := h
        refine g_iald X hK.1 ly_43 hi dMO_put_59 ?_
        refine g_iadd X dMO_put_60 ?_
        refine g_iload X dMO_put_61 4 rfl ?_
        refine g_iadd X dMO_put_63 ?_
        refine g_lload_n X dMO_put_64 rfl 3 rfl ?_
        refine g_iload X dMO_put_65 4 rfl ?_
        refine g_callS X hK gTs_ok mw_MO_byteOf tw_1068 mt_MO_byteOf (As := [.long v3, .int v5]) rfl ⟨(Nat.le_of_ble_eq_true rfl), (Nat.le_of_ble_eq_true rfl), Nat.le_refl _, Nat.le_refl _⟩ (m_MO_byteOf h) (rest := [.int ((((2048 : Int32) * v1) + (M 43 (v1).toNatClampNeg)) + v5), .ref (base + 42)]) rfl (Nat.le_of_ble_eq_true rfl) dMO_put_67 (gk_i (fun r2 M3 h => ?_))
        obtain ⟨hi, h⟩ := h
        refine g_iast X hK.1 ly_42 hi dMO_put_70 ?_
        refine g_topM (fun M4 eM4 => ?_)
        have h := h M4 eM4
        obtain ⟨x5, ex5⟩ : ∃ z : Int32, z = v5 + (1 : Int32) := ⟨_, rfl⟩
        have h := h x5 ex5
        refine g_iinc X (L' := [(5, .int x5), (0, .ref (base + 41)), (1, .int v1), (2, .int v2), (3, .long v3)]) (k := 4) dMO_put_71 rfl (v := x5) (by rw [ex5]; rfl) (Nat.le_of_ble_eq_true rfl) rfl ?_
        refine g_goto X dMO_put_74 ?_
        refine g_sub (L' := [(0, .ref (base + 41)), (1, .int v1), (2, .int v2), (3, .long v3), (5, .int x5)]) [1, 2, 3, 4, 0] rfl ?_
        exact ih v1 v2 v3 x5 M4 h
  refine g_args (L' := [(0, .ref (base + 41)), (1, .int a0), (2, .int a1), (3, .long a2)]) rfl ?_
  unfold wp_MO_put at h
  refine g_iload_n X dMO_put_0 rfl 1 rfl ?_
  refine g_if_lt X dMO_put_1 (fun c => ?_) (fun c => ?_)
  · have h := h.1 c
    refine g_iconst X (v := (0 : Int32)) dMO_put_34 (by decide) ?_
    exact g_zret X hr hlk (by decide) dMO_put_35 ⟨false, rfl, h⟩
  · have h := h.2 c
    refine g_iload_n X dMO_put_4 rfl 1 rfl ?_
    refine g_iconst X (v := (2 : Int32)) dMO_put_5 (by decide) ?_
    refine g_icmp_gt X dMO_put_6 (fun c => ?_) (fun c => ?_)
    · have h := h.1 c
      refine g_iconst X (v := (0 : Int32)) dMO_put_34 (by decide) ?_
      exact g_zret X hr hlk (by decide) dMO_put_35 ⟨false, rfl, h⟩
    · have h := h.2 c
      refine g_iload_n X dMO_put_9 rfl 2 rfl ?_
      refine g_iconst X (v := (1 : Int32)) dMO_put_10 (by decide) ?_
      refine g_icmp_lt X dMO_put_11 (fun c => ?_) (fun c => ?_)
      · have h := h.1 c
        refine g_iconst X (v := (0 : Int32)) dMO_put_34 (by decide) ?_
        exact g_zret X hr hlk (by decide) dMO_put_35 ⟨false, rfl, h⟩
      · have h := h.2 c
        refine g_iload_n X dMO_put_14 rfl 2 rfl ?_
        refine g_bipush X (v := (8 : Int32)) dMO_put_15 (by decide) ?_
        refine g_icmp_gt X dMO_put_17 (fun c => ?_) (fun c => ?_)
        · have h := h.1 c
          refine g_iconst X (v := (0 : Int32)) dMO_put_34 (by decide) ?_
          exact g_zret X hr hlk (by decide) dMO_put_35 ⟨false, rfl, h⟩
        · have h := h.2 c
          refine g_aload_n X dMO_put_20 rfl 0 rfl ?_
          refine g_getr X hK.1 fw_MO_13 ly_41 rfl dMO_put_21 ?_
          refine g_iload_n X dMO_put_24 rfl 1 rfl ?_
          obtain ⟨hi, h⟩ := h
          refine g_iald X hK.1 ly_43 hi dMO_put_25 ?_
          refine g_iload_n X dMO_put_26 rfl 2 rfl ?_
          refine g_iadd X dMO_put_27 ?_
          refine g_sipush X (v := (2048 : Int32)) dMO_put_28 (by decide) ?_
          refine g_icmp_le X dMO_put_31 (fun c => ?_) (fun c => ?_)
          · have h := h.1 c
            refine g_iconst X (v := (0 : Int32)) dMO_put_36 (by decide) ?_
            refine g_istore X (L' := [(5, .int (0 : Int32)), (0, .ref (base + 41)), (1, .int a0), (2, .int a1), (3, .long a2)]) dMO_put_37 (Nat.le_of_ble_eq_true rfl) rfl ?_
            refine g_sub (L' := [(0, .ref (base + 41)), (1, .int a0), (2, .int a1), (3, .long a2), (5, .int (0 : Int32))]) [1, 2, 3, 4, 0] rfl ?_
            obtain ⟨n9, h⟩ := h
            exact r_39 n9 a0 a1 a2 (0 : Int32) M h
          · have h := h.2 c
            refine g_iconst X (v := (0 : Int32)) dMO_put_34 (by decide) ?_
            exact g_zret X hr hlk (by decide) dMO_put_35 ⟨false, rfl, h⟩
set_option maxRecDepth 100000 in
set_option maxHeartbeats 4000000 in
theorem m_MO_bss {l : Launch} {D : va_G} {ta : Nat → ClassId} {base : Nat} {sa : Nat → Nat} {post : Bool → gMem → Prop} {a0 : Int32} {M : gMem} (h : wp_MO_bss post a0 M) : GC gLay gCl D ta base gNw sa gTabs gTs l y_MO_bss b_MO_bss 2 (some .boolean) 0 0 [.ref (base + 41), .int a0] M (gPz post) := by
  refine GC.of (own := "ObjectFileModel") pn_MO rfl (Nat.le_of_ble_eq_true rfl) ?_
  intro p e s m below meth c X hK hr hlk
  refine g_args (L' := [(0, .ref (base + 41)), (1, .int a0)]) rfl ?_
  unfold wp_MO_bss at h
  refine g_iload_n X dMO_bss_0 rfl 1 rfl ?_
  refine g_if_lt X dMO_bss_1 (fun c => ?_) (fun c => ?_)
  · have h := h.1 c
    refine g_iconst X (v := (0 : Int32)) dMO_bss_11 (by decide) ?_
    exact g_zret X hr hlk (by decide) dMO_bss_12 ⟨false, rfl, h⟩
  · have h := h.2 c
    refine g_iload_n X dMO_bss_4 rfl 1 rfl ?_
    refine g_sipush X (v := (4096 : Int32)) dMO_bss_5 (by decide) ?_
    refine g_icmp_le X dMO_bss_8 (fun c => ?_) (fun c => ?_)
    · have h := h.1 c
      refine g_aload_n X dMO_bss_13 rfl 0 rfl ?_
      refine g_getr X hK.1 fw_MO_13 ly_41 rfl dMO_bss_14 ?_
      refine g_iconst X (v := (3 : Int32)) dMO_bss_17 (by decide) ?_
      refine g_iload_n X dMO_bss_18 rfl 1 rfl ?_
      obtain ⟨hi, h⟩ := h
      refine g_iast X hK.1 ly_43 hi dMO_bss_19 ?_
      refine g_topM (fun M1 eM1 => ?_)
      have h := h M1 eM1
      refine g_iconst X (v := (1 : Int32)) dMO_bss_20 (by decide) ?_
      exact g_zret X hr hlk (by decide) dMO_bss_21 ⟨true, rfl, h⟩
    · have h := h.2 c
      refine g_iconst X (v := (0 : Int32)) dMO_bss_11 (by decide) ?_
      exact g_zret X hr hlk (by decide) dMO_bss_12 ⟨false, rfl, h⟩
set_option maxRecDepth 100000 in
set_option maxHeartbeats 4000000 in
theorem m_MO_align {l : Launch} {D : va_G} {ta : Nat → ClassId} {base : Nat} {sa : Nat → Nat} {post : Bool → gMem → Prop} {a0 : Int32} {a1 : Int32} {M : gMem} (h : wp_MO_align post a0 a1 M) : GC gLay gCl D ta base gNw sa gTabs gTs l y_MO_align b_MO_align 3 (some .boolean) 0 0 [.ref (base + 41), .int a0, .int a1] M (gPz post) := by
  refine GC.of (own := "ObjectFileModel") pn_MO rfl (Nat.le_of_ble_eq_true rfl) ?_
  intro p e s m below meth c X hK hr hlk
  refine g_args (L' := [(0, .ref (base + 41)), (1, .int a0), (2, .int a1)]) rfl ?_
  unfold wp_MO_align at h
  refine g_iload_n X dMO_align_0 rfl 1 rfl ?_
  refine g_if_lt X dMO_align_1 (fun c => ?_) (fun c => ?_)
  · have h := h.1 c
    refine g_iconst X (v := (0 : Int32)) dMO_align_19 (by decide) ?_
    exact g_zret X hr hlk (by decide) dMO_align_20 ⟨false, rfl, h⟩
  · have h := h.2 c
    refine g_iload_n X dMO_align_4 rfl 1 rfl ?_
    refine g_iconst X (v := (3 : Int32)) dMO_align_5 (by decide) ?_
    refine g_icmp_gt X dMO_align_6 (fun c => ?_) (fun c => ?_)
    · have h := h.1 c
      refine g_iconst X (v := (0 : Int32)) dMO_align_19 (by decide) ?_
      exact g_zret X hr hlk (by decide) dMO_align_20 ⟨false, rfl, h⟩
    · have h := h.2 c
      refine g_iload_n X dMO_align_9 rfl 2 rfl ?_
      refine g_if_lt X dMO_align_10 (fun c => ?_) (fun c => ?_)
      · have h := h.1 c
        refine g_iconst X (v := (0 : Int32)) dMO_align_19 (by decide) ?_
        exact g_zret X hr hlk (by decide) dMO_align_20 ⟨false, rfl, h⟩
      · have h := h.2 c
        refine g_iload_n X dMO_align_13 rfl 2 rfl ?_
        refine g_bipush X (v := (6 : Int32)) dMO_align_14 (by decide) ?_
        refine g_icmp_le X dMO_align_16 (fun c => ?_) (fun c => ?_)
        · have h := h.1 c
          refine g_aload_n X dMO_align_21 rfl 0 rfl ?_
          refine g_getr X hK.1 fw_MO_16 ly_41 rfl dMO_align_22 ?_
          refine g_iload_n X dMO_align_25 rfl 1 rfl ?_
          refine g_iconst X (v := (1 : Int32)) dMO_align_26 (by decide) ?_
          refine g_iload_n X dMO_align_27 rfl 2 rfl ?_
          refine g_ishl X dMO_align_28 ?_
          obtain ⟨hi, h⟩ := h
          refine g_iast X hK.1 ly_44 hi dMO_align_29 ?_
          refine g_topM (fun M1 eM1 => ?_)
          have h := h M1 eM1
          refine g_iconst X (v := (1 : Int32)) dMO_align_30 (by decide) ?_
          exact g_zret X hr hlk (by decide) dMO_align_31 ⟨true, rfl, h⟩
        · have h := h.2 c
          refine g_iconst X (v := (0 : Int32)) dMO_align_19 (by decide) ?_
          exact g_zret X hr hlk (by decide) dMO_align_20 ⟨false, rfl, h⟩
set_option maxRecDepth 100000 in
set_option maxHeartbeats 4000000 in
theorem m_MO_start {l : Launch} {D : va_G} {ta : Nat → ClassId} {base : Nat} {sa : Nat → Nat} {post : Bool → gMem → Prop} {a0 : Int32} {M : gMem} (h : wp_MO_start post a0 M) : GC gLay gCl D ta base gNw sa gTabs gTs l y_MO_start b_MO_start 3 (some .boolean) 0 0 [.ref (base + 41), .int a0] M (gPz post) := by
  refine GC.of (own := "ObjectFileModel") pn_MO rfl (Nat.le_of_ble_eq_true rfl) ?_
  intro p e s m below meth c X hK hr hlk
  have r_49 : ∀ (v1 : Int32) (v2 : Int32) (M : gMem), wj_MO_start_49 post v1 v2 M → GMx D ta base p l e 0 0 s m [.ref (base + 41), .int a0] below meth c (gPz post) 3 49 [(0, .ref (base + 41)), (1, .int v1), (2, .int v2)] [] M := by
    intro v1 v2 M h
    unfold wj_MO_start_49 at h
    refine g_aload_n X dMO_start_49 rfl 0 rfl ?_
    refine g_getr X hK.1 fw_MO_19 ly_41 rfl dMO_start_50 ?_
    refine g_iload_n X dMO_start_53 rfl 2 rfl ?_
    refine g_iload_n X dMO_start_54 rfl 1 rfl ?_
    obtain ⟨hi, h⟩ := h
    refine g_iast X hK.1 ly_45 hi dMO_start_55 ?_
    refine g_topM (fun M2 eM2 => ?_)
    have h := h M2 eM2
    refine g_aload_n X dMO_start_56 rfl 0 rfl ?_
    refine g_getr X hK.1 fw_MO_22 ly_41 rfl dMO_start_57 ?_
    refine g_iconst X (v := (0 : Int32)) dMO_start_60 (by decide) ?_
    refine g_dup2_11 X dMO_start_61 rfl rfl ?_
    obtain ⟨hi, h⟩ := h
    refine g_iald X hK.1 ly_46 hi dMO_start_62 ?_
    refine g_iconst X (v := (1 : Int32)) dMO_start_63 (by decide) ?_
    refine g_iadd X dMO_start_64 ?_
    obtain ⟨hi, h⟩ := h
    refine g_iast X hK.1 ly_46 hi dMO_start_65 ?_
    refine g_topM (fun M3 eM3 => ?_)
    have h := h M3 eM3
    refine g_iconst X (v := (1 : Int32)) dMO_start_66 (by decide) ?_
    exact g_zret X hr hlk (by decide) dMO_start_67 ⟨true, rfl, h⟩
  refine g_args (L' := [(0, .ref (base + 41)), (1, .int a0)]) rfl ?_
  unfold wp_MO_start at h
  refine g_aload_n X dMO_start_0 rfl 0 rfl ?_
  refine g_getr X hK.1 fw_MO_22 ly_41 rfl dMO_start_1 ?_
  refine g_iconst X (v := (0 : Int32)) dMO_start_4 (by decide) ?_
  obtain ⟨hi, h⟩ := h
  refine g_iald X hK.1 ly_46 hi dMO_start_5 ?_
  refine g_topi (fun x1 ex1 => ?_)
  have h := h x1 ex1
  refine g_istore_n X (L' := [(2, .int x1), (0, .ref (base + 41)), (1, .int a0)]) dMO_start_6 rfl (Nat.le_of_ble_eq_true rfl) rfl ?_
  refine g_iload_n X dMO_start_7 rfl 2 rfl ?_
  refine g_if_lt X dMO_start_8 (fun c => ?_) (fun c => ?_)
  · have h := h.1 c
    refine g_iconst X (v := (0 : Int32)) dMO_start_47 (by decide) ?_
    exact g_zret X hr hlk (by decide) dMO_start_48 ⟨false, rfl, h⟩
  · have h := h.2 c
    refine g_iload_n X dMO_start_11 rfl 2 rfl ?_
    refine g_sipush X (v := (2046 : Int32)) dMO_start_12 (by decide) ?_
    refine g_icmp_gt X dMO_start_15 (fun c => ?_) (fun c => ?_)
    · have h := h.1 c
      refine g_iconst X (v := (0 : Int32)) dMO_start_47 (by decide) ?_
      exact g_zret X hr hlk (by decide) dMO_start_48 ⟨false, rfl, h⟩
    · have h := h.2 c
      refine g_iload_n X dMO_start_18 rfl 2 rfl ?_
      refine g_iconst X (v := (2 : Int32)) dMO_start_19 (by decide) ?_
      refine g_irem X dMO_start_20 (by decide) ?_
      refine g_if_ne X dMO_start_21 (fun c => ?_) (fun c => ?_)
      · have h := h.1 c
        refine g_iconst X (v := (0 : Int32)) dMO_start_47 (by decide) ?_
        exact g_zret X hr hlk (by decide) dMO_start_48 ⟨false, rfl, h⟩
      · have h := h.2 c
        refine g_iload_n X dMO_start_24 rfl 0 rfl ?_
        refine g_sipush X (v := (1024 : Int32)) dMO_start_25 (by decide) ?_
        refine g_icmp_eq X dMO_start_28 (fun c => ?_) (fun c => ?_)
        · have h := h.1 c
          refine g_iconst X (v := (0 : Int32)) dMO_start_47 (by decide) ?_
          exact g_zret X hr hlk (by decide) dMO_start_48 ⟨false, rfl, h⟩
        · have h := h.2 c
          refine g_iload_n X dMO_start_31 rfl 0 rfl ?_
          refine g_if_le X dMO_start_32 (fun c => ?_) (fun c => ?_)
          · have h := h.1 c
            refine g_sub (L' := [(0, .ref (base + 41)), (1, .int a0), (2, .int x1)]) [1, 2, 0] rfl ?_
            exact r_49 a0 x1 M h
          · have h := h.2 c
            refine g_iload_n X dMO_start_35 rfl 2 rfl ?_
            refine g_aload_n X dMO_start_36 rfl 1 rfl ?_
            refine g_getr X hK.1 fw_MO_19 ly_41 rfl dMO_start_37 ?_
            refine g_iload_n X dMO_start_40 rfl 0 rfl ?_
            refine g_iconst X (v := (1 : Int32)) dMO_start_41 (by decide) ?_
            refine g_isub X dMO_start_42 ?_
            obtain ⟨hi, h⟩ := h
            refine g_iald X hK.1 ly_45 hi dMO_start_43 ?_
            refine g_icmp_gt X dMO_start_44 (fun c => ?_) (fun c => ?_)
            · have h := h.1 c
              refine g_sub (L' := [(0, .ref (base + 41)), (1, .int a0), (2, .int x1)]) [1, 2, 0] rfl ?_
              exact r_49 a0 x1 M h
            · have h := h.2 c
              refine g_iconst X (v := (0 : Int32)) dMO_start_47 (by decide) ?_
              exact g_zret X hr hlk (by decide) dMO_start_48 ⟨false, rfl, h⟩
set_option maxRecDepth 100000 in
set_option maxHeartbeats 4000000 in
theorem m_MO_letter {l : Launch} {D : va_G} {ta : Nat → ClassId} {base : Nat} {sa : Nat → Nat} {post : Bool → gMem → Prop} {a0 : Int32} {M : gMem} (h : wp_MO_letter post a0 M) : GC gLay gCl D ta base gNw sa gTabs gTs l y_MO_letter b_MO_letter 2 (some .boolean) 0 0 [.ref (base + 41), .int a0] M (gPz post) := by
  refine GC.of (own := "ObjectFileModel") pn_MO rfl (Nat.le_of_ble_eq_true rfl) ?_
  intro p e s m below meth c X hK hr hlk
  refine g_args (L' := [(0, .ref (base + 41)), (1, .int a0)]) rfl ?_
  unfold wp_MO_letter at h
  refine g_iload_n X dMO_letter_0 rfl 1 rfl ?_
  refine g_bipush X (v := (33 : Int32)) dMO_letter_1 (by decide) ?_
  refine g_icmp_lt X dMO_letter_3 (fun c => ?_) (fun c => ?_)
  · have h := h.1 c
    refine g_iconst X (v := (0 : Int32)) dMO_letter_21 (by decide) ?_
    exact g_zret X hr hlk (by decide) dMO_letter_22 ⟨false, rfl, h⟩
  · have h := h.2 c
    refine g_iload_n X dMO_letter_6 rfl 1 rfl ?_
    refine g_bipush X (v := (126 : Int32)) dMO_letter_7 (by decide) ?_
    refine g_icmp_gt X dMO_letter_9 (fun c => ?_) (fun c => ?_)
    · have h := h.1 c
      refine g_iconst X (v := (0 : Int32)) dMO_letter_21 (by decide) ?_
      exact g_zret X hr hlk (by decide) dMO_letter_22 ⟨false, rfl, h⟩
    · have h := h.2 c
      refine g_aload_n X dMO_letter_12 rfl 0 rfl ?_
      refine g_geti X hK.1 fw_MO_134 ly_41 rfl dMO_letter_13 ?_
      refine g_bipush X (v := (16 : Int32)) dMO_letter_16 (by decide) ?_
      refine g_icmp_ne X dMO_letter_18 (fun c => ?_) (fun c => ?_)
      · have h := h.1 c
        refine g_aload_n X dMO_letter_23 rfl 0 rfl ?_
        refine g_getr X hK.1 fw_MO_67 ly_41 rfl dMO_letter_24 ?_
        refine g_aload_n X dMO_letter_27 rfl 0 rfl ?_
        refine g_geti X hK.1 fw_MO_134 ly_41 rfl dMO_letter_28 ?_
        refine g_iload_n X dMO_letter_31 rfl 1 rfl ?_
        obtain ⟨hi, h⟩ := h
        refine g_iast X hK.1 ly_61 hi dMO_letter_32 ?_
        refine g_topM (fun M1 eM1 => ?_)
        have h := h M1 eM1
        refine g_aload_n X dMO_letter_33 rfl 0 rfl ?_
        refine g_dup X dMO_letter_34 rfl ?_
        refine g_geti X hK.1 fw_MO_134 ly_41 rfl dMO_letter_35 ?_
        refine g_iconst X (v := (1 : Int32)) dMO_letter_38 (by decide) ?_
        refine g_iadd X dMO_letter_39 ?_
        refine g_puti X hK.1 fw_MO_134 pw_MO_20 ly_41 rfl dMO_letter_40 ?_
        refine g_topM (fun M2 eM2 => ?_)
        have h := h M2 eM2
        refine g_iconst X (v := (1 : Int32)) dMO_letter_43 (by decide) ?_
        exact g_zret X hr hlk (by decide) dMO_letter_44 ⟨true, rfl, h⟩
      · have h := h.2 c
        refine g_iconst X (v := (0 : Int32)) dMO_letter_21 (by decide) ?_
        exact g_zret X hr hlk (by decide) dMO_letter_22 ⟨false, rfl, h⟩
set_option maxRecDepth 100000 in
set_option maxHeartbeats 4000000 in
theorem m_MO_isPower {l : Launch} {D : va_G} {ta : Nat → ClassId} {base : Nat} {sa : Nat → Nat} {post : Bool → gMem → Prop} {a0 : Int32} {M : gMem} (h : wp_MO_isPower post a0 M) : GC gLay gCl D ta base gNw sa gTabs gTs l y_MO_isPower b_MO_isPower 1 (some .boolean) 0 0 [.int a0] M (gPz post) := by
  refine GC.of (own := "ObjectFileModel") pn_MO rfl (Nat.le_of_ble_eq_true rfl) ?_
  intro p e s m below meth c X hK hr hlk
  refine g_args (L' := [(0, .int a0)]) rfl ?_
  unfold wp_MO_isPower at h
  refine g_iload_n X dMO_isPower_0 rfl 0 rfl ?_
  refine g_iconst X (v := (1 : Int32)) dMO_isPower_1 (by decide) ?_
  refine g_icmp_eq X dMO_isPower_2 (fun c => ?_) (fun c => ?_)
  · have h := h.1 c
    refine g_iconst X (v := (1 : Int32)) dMO_isPower_39 (by decide) ?_
    refine g_goto X dMO_isPower_40 ?_
    exact g_zret X hr hlk (by decide) dMO_isPower_44 ⟨true, rfl, h⟩
  · have h := h.2 c
    refine g_iload_n X dMO_isPower_5 rfl 0 rfl ?_
    refine g_iconst X (v := (2 : Int32)) dMO_isPower_6 (by decide) ?_
    refine g_icmp_eq X dMO_isPower_7 (fun c => ?_) (fun c => ?_)
    · have h := h.1 c
      refine g_iconst X (v := (1 : Int32)) dMO_isPower_39 (by decide) ?_
      refine g_goto X dMO_isPower_40 ?_
      exact g_zret X hr hlk (by decide) dMO_isPower_44 ⟨true, rfl, h⟩
    · have h := h.2 c
      refine g_iload_n X dMO_isPower_10 rfl 0 rfl ?_
      refine g_iconst X (v := (4 : Int32)) dMO_isPower_11 (by decide) ?_
      refine g_icmp_eq X dMO_isPower_12 (fun c => ?_) (fun c => ?_)
      · have h := h.1 c
        refine g_iconst X (v := (1 : Int32)) dMO_isPower_39 (by decide) ?_
        refine g_goto X dMO_isPower_40 ?_
        exact g_zret X hr hlk (by decide) dMO_isPower_44 ⟨true, rfl, h⟩
      · have h := h.2 c
        refine g_iload_n X dMO_isPower_15 rfl 0 rfl ?_
        refine g_bipush X (v := (8 : Int32)) dMO_isPower_16 (by decide) ?_
        refine g_icmp_eq X dMO_isPower_18 (fun c => ?_) (fun c => ?_)
        · have h := h.1 c
          refine g_iconst X (v := (1 : Int32)) dMO_isPower_39 (by decide) ?_
          refine g_goto X dMO_isPower_40 ?_
          exact g_zret X hr hlk (by decide) dMO_isPower_44 ⟨true, rfl, h⟩
        · have h := h.2 c
          refine g_iload_n X dMO_isPower_21 rfl 0 rfl ?_
          refine g_bipush X (v := (16 : Int32)) dMO_isPower_22 (by decide) ?_
          refine g_icmp_eq X dMO_isPower_24 (fun c => ?_) (fun c => ?_)
          · have h := h.1 c
            refine g_iconst X (v := (1 : Int32)) dMO_isPower_39 (by decide) ?_
            refine g_goto X dMO_isPower_40 ?_
            exact g_zret X hr hlk (by decide) dMO_isPower_44 ⟨true, rfl, h⟩
          · have h := h.2 c
            refine g_iload_n X dMO_isPower_27 rfl 0 rfl ?_
            refine g_bipush X (v := (32 : Int32)) dMO_isPower_28 (by decide) ?_
            refine g_icmp_eq X dMO_isPower_30 (fun c => ?_) (fun c => ?_)
            · have h := h.1 c
              refine g_iconst X (v := (1 : Int32)) dMO_isPower_39 (by decide) ?_
              refine g_goto X dMO_isPower_40 ?_
              exact g_zret X hr hlk (by decide) dMO_isPower_44 ⟨true, rfl, h⟩
            · have h := h.2 c
              refine g_iload_n X dMO_isPower_33 rfl 0 rfl ?_
              refine g_bipush X (v := (64 : Int32)) dMO_isPower_34 (by decide) ?_
              refine g_icmp_ne X dMO_isPower_36 (fun c => ?_) (fun c => ?_)
              · have h := h.1 c
                refine g_iconst X (v := (0 : Int32)) dMO_isPower_43 (by decide) ?_
                exact g_zret X hr hlk (by decide) dMO_isPower_44 ⟨false, rfl, h⟩
              · have h := h.2 c
                refine g_iconst X (v := (1 : Int32)) dMO_isPower_39 (by decide) ?_
                refine g_goto X dMO_isPower_40 ?_
                exact g_zret X hr hlk (by decide) dMO_isPower_44 ⟨true, rfl, h⟩
set_option maxRecDepth 100000 in
set_option maxHeartbeats 4000000 in
theorem m_MO_isSymbol {l : Launch} {D : va_G} {ta : Nat → ClassId} {base : Nat} {sa : Nat → Nat} {post : Bool → gMem → Prop} {a0 : Int32} {a1 : Int32} {a2 : Int32} {a3 : Int32} {M : gMem} (h : wp_MO_isSymbol post a0 a1 a2 a3 M) : GC gLay gCl D ta base gNw sa gTabs gTs l y_MO_isSymbol b_MO_isSymbol 5 (some .boolean) 1 20 [.ref (base + 41), .int a0, .int a1, .int a2, .int a3] M (gPz post) := by
  refine GC.of (own := "ObjectFileModel") pn_MO rfl (Nat.le_of_ble_eq_true rfl) ?_
  intro p e s m below meth c X hK hr hlk
  refine g_args (L' := [(0, .ref (base + 41)), (1, .int a0), (2, .int a1), (3, .int a2), (4, .int a3)]) rfl ?_
  unfold wp_MO_isSymbol at h
  refine g_iload_n X dMO_isSymbol_0 rfl 1 rfl ?_
  refine g_lookup X (dt := 96) [((-1 : Int32), 36), ((4 : Int32), 55), ((5 : Int32), 65)] dMO_isSymbol_1.1 (by decide +kernel) (by decide +kernel) (by decide) ?_
  refine gSw_cons (fun c => ?_) (fun c => ?_)
  · have h := h.1 c
    refine g_iload_n X dMO_isSymbol_36 rfl 2 rfl ?_
    refine g_if_ne X dMO_isSymbol_37 (fun c => ?_) (fun c => ?_)
    · have h := h.1 c
      refine g_iconst X (v := (0 : Int32)) dMO_isSymbol_53 (by decide) ?_
      exact g_zret X hr hlk (by decide) dMO_isSymbol_54 ⟨false, rfl, h⟩
    · have h := h.2 c
      refine g_iload_n X dMO_isSymbol_40 rfl 3 rfl ?_
      refine g_if_ne X dMO_isSymbol_41 (fun c => ?_) (fun c => ?_)
      · have h := h.1 c
        refine g_iconst X (v := (0 : Int32)) dMO_isSymbol_53 (by decide) ?_
        exact g_zret X hr hlk (by decide) dMO_isSymbol_54 ⟨false, rfl, h⟩
      · have h := h.2 c
        refine g_iload X dMO_isSymbol_44 4 rfl ?_
        refine g_if_eq X dMO_isSymbol_46 (fun c => ?_) (fun c => ?_)
        · have h := h.1 c
          refine g_iconst X (v := (0 : Int32)) dMO_isSymbol_53 (by decide) ?_
          exact g_zret X hr hlk (by decide) dMO_isSymbol_54 ⟨false, rfl, h⟩
        · have h := h.2 c
          refine g_iconst X (v := (1 : Int32)) dMO_isSymbol_49 (by decide) ?_
          refine g_goto X dMO_isSymbol_50 ?_
          exact g_zret X hr hlk (by decide) dMO_isSymbol_54 ⟨true, rfl, h⟩
  · have h := h.2 c
    refine gSw_cons (fun c => ?_) (fun c => ?_)
    · have h := h.1 c
      refine g_iload_n X dMO_isSymbol_55 rfl 3 rfl ?_
      refine g_if_lt X dMO_isSymbol_56 (fun c => ?_) (fun c => ?_)
      · have h := h.1 c
        refine g_iconst X (v := (0 : Int32)) dMO_isSymbol_63 (by decide) ?_
        exact g_zret X hr hlk (by decide) dMO_isSymbol_64 ⟨false, rfl, h⟩
      · have h := h.2 c
        refine g_iconst X (v := (1 : Int32)) dMO_isSymbol_59 (by decide) ?_
        refine g_goto X dMO_isSymbol_60 ?_
        exact g_zret X hr hlk (by decide) dMO_isSymbol_64 ⟨true, rfl, h⟩
    · have h := h.2 c
      refine gSw_cons (fun c => ?_) (fun c => ?_)
      · have h := h.1 c
        refine g_iload_n X dMO_isSymbol_65 rfl 2 rfl ?_
        refine g_callS X hK gTs_ok mw_MO_isPower tw_1100 mt_MO_isPower (As := [.int a1]) rfl ⟨(Nat.le_of_ble_eq_true rfl), (Nat.le_of_ble_eq_true rfl), Nat.le_refl _, Nat.le_refl _⟩ (m_MO_isPower h) (rest := []) rfl (Nat.le_of_ble_eq_true rfl) dMO_isSymbol_66 (gk_z (fun r1 M2 h => ?_))
        refine g_if_eq X dMO_isSymbol_69 (fun c => ?_) (fun c => ?_)
        · have h := h.1 c
          refine g_iconst X (v := (0 : Int32)) dMO_isSymbol_94 (by decide) ?_
          exact g_zret X hr hlk (by decide) dMO_isSymbol_95 ⟨false, rfl, h⟩
        · have h := h.2 c
          refine g_iload_n X dMO_isSymbol_72 rfl 3 rfl ?_
          refine g_iconst X (v := (1 : Int32)) dMO_isSymbol_73 (by decide) ?_
          refine g_icmp_lt X dMO_isSymbol_74 (fun c => ?_) (fun c => ?_)
          · have h := h.1 c
            refine g_iconst X (v := (0 : Int32)) dMO_isSymbol_94 (by decide) ?_
            exact g_zret X hr hlk (by decide) dMO_isSymbol_95 ⟨false, rfl, h⟩
          · have h := h.2 c
            refine g_iload_n X dMO_isSymbol_77 rfl 3 rfl ?_
            refine g_sipush X (v := (4096 : Int32)) dMO_isSymbol_78 (by decide) ?_
            refine g_icmp_gt X dMO_isSymbol_81 (fun c => ?_) (fun c => ?_)
            · have h := h.1 c
              refine g_iconst X (v := (0 : Int32)) dMO_isSymbol_94 (by decide) ?_
              exact g_zret X hr hlk (by decide) dMO_isSymbol_95 ⟨false, rfl, h⟩
            · have h := h.2 c
              refine g_iload X dMO_isSymbol_84 4 rfl ?_
              refine g_iconst X (v := (1 : Int32)) dMO_isSymbol_86 (by decide) ?_
              refine g_icmp_ne X dMO_isSymbol_87 (fun c => ?_) (fun c => ?_)
              · have h := h.1 c
                refine g_iconst X (v := (0 : Int32)) dMO_isSymbol_94 (by decide) ?_
                exact g_zret X hr hlk (by decide) dMO_isSymbol_95 ⟨false, rfl, h⟩
              · have h := h.2 c
                refine g_iconst X (v := (1 : Int32)) dMO_isSymbol_90 (by decide) ?_
                refine g_goto X dMO_isSymbol_91 ?_
                exact g_zret X hr hlk (by decide) dMO_isSymbol_95 ⟨true, rfl, h⟩
      · have h := h.2 c
        refine gSw_nil ?_
        refine g_iload_n X dMO_isSymbol_96 rfl 2 rfl ?_
        refine g_if_lt X dMO_isSymbol_97 (fun c => ?_) (fun c => ?_)
        · have h := h.1 c
          refine g_iconst X (v := (0 : Int32)) dMO_isSymbol_108 (by decide) ?_
          exact g_zret X hr hlk (by decide) dMO_isSymbol_109 ⟨false, rfl, h⟩
        · have h := h.2 c
          refine g_iload_n X dMO_isSymbol_100 rfl 3 rfl ?_
          refine g_if_lt X dMO_isSymbol_101 (fun c => ?_) (fun c => ?_)
          · have h := h.1 c
            refine g_iconst X (v := (0 : Int32)) dMO_isSymbol_108 (by decide) ?_
            exact g_zret X hr hlk (by decide) dMO_isSymbol_109 ⟨false, rfl, h⟩
          · have h := h.2 c
            refine g_iconst X (v := (1 : Int32)) dMO_isSymbol_104 (by decide) ?_
            refine g_goto X dMO_isSymbol_105 ?_
            exact g_zret X hr hlk (by decide) dMO_isSymbol_109 ⟨true, rfl, h⟩
set_option maxRecDepth 100000 in
set_option maxHeartbeats 4000000 in
theorem m_MO_isSameName {l : Launch} {D : va_G} {ta : Nat → ClassId} {base : Nat} {sa : Nat → Nat} {post : Bool → gMem → Prop} {a0 : Int32} {a1 : Int32} {M : gMem} (h : wp_MO_isSameName post a0 a1 M) : GC gLay gCl D ta base gNw sa gTabs gTs l y_MO_isSameName b_MO_isSameName 5 (some .boolean) 0 0 [.ref (base + 41), .int a0, .int a1] M (gPz post) := by
  refine GC.of (own := "ObjectFileModel") pn_MO rfl (Nat.le_of_ble_eq_true rfl) ?_
  intro p e s m below meth c X hK hr hlk
  have r_24 : ∀ (n : Nat) (v1 : Int32) (v2 : Int32) (v3 : Int32) (v4 : Int32) (M : gMem), wl_MO_isSameName_24 post n v1 v2 v3 v4 M → GMx D ta base p l e 0 0 s m [.ref (base + 41), .int a0, .int a1] below meth c (gPz post) 5 24 [(0, .ref (base + 41)), (1, .int v1), (2, .int v2), (3, .int v3), (4, .int v4)] [] M := by
    intro n
    induction n with
    | zero => exact fun _ _ _ _ M h => h.elim
    | succ n ih =>
      intro v1 v2 v3 v4 M h
      refine g_iload X dMO_isSameName_24 4 rfl ?_
      refine g_aload_n X dMO_isSameName_26 rfl 0 rfl ?_
      refine g_getr X hK.1 fw_MO_40 ly_41 rfl dMO_isSameName_27 ?_
      refine g_iload_n X dMO_isSameName_30 rfl 1 rfl ?_
      obtain ⟨hi, h⟩ := h
      refine g_iald X hK.1 ly_52 hi dMO_isSameName_31 ?_
      refine g_icmp_ge X dMO_isSameName_32 (fun c => ?_) (fun c => ?_)
      · have h := h.1 c
        refine g_iload_n X dMO_isSameName_78 rfl 3 rfl ?_
        obtain ⟨b, eb, h⟩ := h
        exact g_zretE X hr hlk eb dMO_isSameName_79 ⟨b, rfl, h⟩
      · have h := h.2 c
        refine g_iload_n X dMO_isSameName_35 rfl 3 rfl ?_
        refine g_if_eq X dMO_isSameName_36 (fun c => ?_) (fun c => ?_)
        · have h := h.1 c
          refine g_iload_n X dMO_isSameName_78 rfl 3 rfl ?_
          obtain ⟨b, eb, h⟩ := h
          exact g_zretE X hr hlk eb dMO_isSameName_79 ⟨b, rfl, h⟩
        · have h := h.2 c
          refine g_aload_n X dMO_isSameName_39 rfl 0 rfl ?_
          refine g_getr X hK.1 fw_MO_43 ly_41 rfl dMO_isSameName_40 ?_
          refine g_bipush X (v := (16 : Int32)) dMO_isSameName_43 (by decide) ?_
          refine g_iload_n X dMO_isSameName_45 rfl 1 rfl ?_
          refine g_imul X dMO_isSameName_46 ?_
          refine g_iload X dMO_isSameName_47 4 rfl ?_
          refine g_iadd X dMO_isSameName_49 ?_
          obtain ⟨hi, h⟩ := h
          refine g_iald X hK.1 ly_53 hi dMO_isSameName_50 ?_
          refine g_aload_n X dMO_isSameName_51 rfl 0 rfl ?_
          refine g_getr X hK.1 fw_MO_43 ly_41 rfl dMO_isSameName_52 ?_
          refine g_bipush X (v := (16 : Int32)) dMO_isSameName_55 (by decide) ?_
          refine g_iload_n X dMO_isSameName_57 rfl 2 rfl ?_
          refine g_imul X dMO_isSameName_58 ?_
          refine g_iload X dMO_isSameName_59 4 rfl ?_
          refine g_iadd X dMO_isSameName_61 ?_
          obtain ⟨hi, h⟩ := h
          refine g_iald X hK.1 ly_53 hi dMO_isSameName_62 ?_
          refine g_icmp_ne X dMO_isSameName_63 (fun c => ?_) (fun c => ?_)
          · have h := h.1 c
            refine g_iconst X (v := (0 : Int32)) dMO_isSameName_70 (by decide) ?_
            refine g_istore_n X (L' := [(3, .int (0 : Int32)), (0, .ref (base + 41)), (1, .int v1), (2, .int v2), (4, .int v4)]) dMO_isSameName_71 rfl (Nat.le_of_ble_eq_true rfl) rfl ?_
            obtain ⟨x1, ex1⟩ : ∃ z : Int32, z = v4 + (1 : Int32) := ⟨_, rfl⟩
            have h := h x1 ex1
            refine g_iinc X (L' := [(4, .int x1), (3, .int (0 : Int32)), (0, .ref (base + 41)), (1, .int v1), (2, .int v2)]) (k := 4) dMO_isSameName_72 rfl (v := x1) (by rw [ex1]; rfl) (Nat.le_of_ble_eq_true rfl) rfl ?_
            refine g_goto X dMO_isSameName_75 ?_
            refine g_sub (L' := [(0, .ref (base + 41)), (1, .int v1), (2, .int v2), (3, .int (0 : Int32)), (4, .int x1)]) [2, 3, 4, 1, 0] rfl ?_
            exact ih v1 v2 (0 : Int32) x1 M h
          · have h := h.2 c
            refine g_iconst X (v := (1 : Int32)) dMO_isSameName_66 (by decide) ?_
            refine g_goto X dMO_isSameName_67 ?_
            refine g_istore_n X (L' := [(3, .int (1 : Int32)), (0, .ref (base + 41)), (1, .int v1), (2, .int v2), (4, .int v4)]) dMO_isSameName_71 rfl (Nat.le_of_ble_eq_true rfl) rfl ?_
            obtain ⟨x2, ex2⟩ : ∃ z : Int32, z = v4 + (1 : Int32) := ⟨_, rfl⟩
            have h := h x2 ex2
            refine g_iinc X (L' := [(4, .int x2), (3, .int (1 : Int32)), (0, .ref (base + 41)), (1, .int v1), (2, .int v2)]) (k := 4) dMO_isSameName_72 rfl (v := x2) (by rw [ex2]; rfl) (Nat.le_of_ble_eq_true rfl) rfl ?_
            refine g_goto X dMO_isSameName_75 ?_
            refine g_sub (L' := [(0, .ref (base + 41)), (1, .int v1), (2, .int v2), (3, .int (1 : Int32)), (4, .int x2)]) [2, 3, 4, 1, 0] rfl ?_
            exact ih v1 v2 (1 : Int32) x2 M h
  refine g_args (L' := [(0, .ref (base + 41)), (1, .int a0), (2, .int a1)]) rfl ?_
  unfold wp_MO_isSameName at h
  refine g_aload_n X dMO_isSameName_0 rfl 0 rfl ?_
  refine g_getr X hK.1 fw_MO_40 ly_41 rfl dMO_isSameName_1 ?_
  refine g_iload_n X dMO_isSameName_4 rfl 1 rfl ?_
  obtain ⟨hi, h⟩ := h
  refine g_iald X hK.1 ly_52 hi dMO_isSameName_5 ?_
  refine g_aload_n X dMO_isSameName_6 rfl 0 rfl ?_
  refine g_getr X hK.1 fw_MO_40 ly_41 rfl dMO_isSameName_7 ?_
  refine g_iload_n X dMO_isSameName_10 rfl 2 rfl ?_
  obtain ⟨hi, h⟩ := h
  refine g_iald X hK.1 ly_52 hi dMO_isSameName_11 ?_
  refine g_icmp_ne X dMO_isSameName_12 (fun c => ?_) (fun c => ?_)
  · have h := h.1 c
    refine g_iconst X (v := (0 : Int32)) dMO_isSameName_19 (by decide) ?_
    refine g_istore_n X (L' := [(3, .int (0 : Int32)), (0, .ref (base + 41)), (1, .int a0), (2, .int a1)]) dMO_isSameName_20 rfl (Nat.le_of_ble_eq_true rfl) rfl ?_
    refine g_iconst X (v := (0 : Int32)) dMO_isSameName_21 (by decide) ?_
    refine g_istore X (L' := [(4, .int (0 : Int32)), (3, .int (0 : Int32)), (0, .ref (base + 41)), (1, .int a0), (2, .int a1)]) dMO_isSameName_22 (Nat.le_of_ble_eq_true rfl) rfl ?_
    refine g_sub (L' := [(0, .ref (base + 41)), (1, .int a0), (2, .int a1), (3, .int (0 : Int32)), (4, .int (0 : Int32))]) [2, 3, 4, 1, 0] rfl ?_
    obtain ⟨n9, h⟩ := h
    exact r_24 n9 a0 a1 (0 : Int32) (0 : Int32) M h
  · have h := h.2 c
    refine g_iconst X (v := (1 : Int32)) dMO_isSameName_15 (by decide) ?_
    refine g_goto X dMO_isSameName_16 ?_
    refine g_istore_n X (L' := [(3, .int (1 : Int32)), (0, .ref (base + 41)), (1, .int a0), (2, .int a1)]) dMO_isSameName_20 rfl (Nat.le_of_ble_eq_true rfl) rfl ?_
    refine g_iconst X (v := (0 : Int32)) dMO_isSameName_21 (by decide) ?_
    refine g_istore X (L' := [(4, .int (0 : Int32)), (3, .int (1 : Int32)), (0, .ref (base + 41)), (1, .int a0), (2, .int a1)]) dMO_isSameName_22 (Nat.le_of_ble_eq_true rfl) rfl ?_
    refine g_sub (L' := [(0, .ref (base + 41)), (1, .int a0), (2, .int a1), (3, .int (1 : Int32)), (4, .int (0 : Int32))]) [2, 3, 4, 1, 0] rfl ?_
    obtain ⟨n9, h⟩ := h
    exact r_24 n9 a0 a1 (1 : Int32) (0 : Int32) M h
set_option maxRecDepth 100000 in
set_option maxHeartbeats 4000000 in
theorem m_MO_symbol {l : Launch} {D : va_G} {ta : Nat → ClassId} {base : Nat} {sa : Nat → Nat} {post : Int32 → gMem → Prop} {a0 : Int32} {a1 : Int32} {a2 : Int32} {a3 : Int32} {a4 : Int32} {M : gMem} (h : wp_MO_symbol post a0 a1 a2 a3 a4 M) : GC gLay gCl D ta base gNw sa gTabs gTs l y_MO_symbol b_MO_symbol 9 (some .int) 2 44 [.ref (base + 41), .int a0, .int a1, .int a2, .int a3, .int a4] M (gPi post) := by
  refine GC.of (own := "ObjectFileModel") pn_MO rfl (Nat.le_of_ble_eq_true rfl) ?_
  intro p e s m below meth c X hK hr hlk
  have r_113 : ∀ (n : Nat) (v1 : Int32) (v2 : Int32) (v3 : Int32) (v4 : Int32) (v5 : Int32) (v7 : Int32) (v8 : Int32) (M : gMem), wl_MO_symbol_113 post n v1 v2 v3 v4 v5 v7 v8 M → GMx D ta base p l e 2 44 s m [.ref (base + 41), .int a0, .int a1, .int a2, .int a3, .int a4] below meth c (gPi post) 9 113 [(0, .ref (base + 41)), (1, .int v1), (2, .int v2), (3, .int v3), (4, .int v4), (5, .int v5), (7, .int v7), (8, .int v8)] [] M := by
    intro n
    induction n with
    | zero => exact fun _ _ _ _ _ _ _ M h => h.elim
    | succ n ih =>
      intro v1 v2 v3 v4 v5 v7 v8 M h
      refine g_iload X dMO_symbol_113 7 rfl ?_
      refine g_iload X dMO_symbol_115 6 rfl ?_
      refine g_icmp_ge X dMO_symbol_117 (fun c => ?_) (fun c => ?_)
      · have h := h.1 c
        refine g_aload_n X dMO_symbol_154 rfl 0 rfl ?_
        refine g_iload_n X dMO_symbol_155 rfl 1 rfl ?_
        refine g_iload_n X dMO_symbol_156 rfl 2 rfl ?_
        refine g_iload_n X dMO_symbol_157 rfl 3 rfl ?_
        refine g_iload X dMO_symbol_158 4 rfl ?_
        refine g_callV X hK gTs_ok ly_41 rfl mw_MO_isSymbol tw_1096 mi_MO_isSymbol ms_MO_isSymbol (As := [.int v1, .int v2, .int v3, .int v4]) rfl ⟨(Nat.le_of_ble_eq_true rfl), (Nat.le_of_ble_eq_true rfl), Nat.le_refl _, Nat.le_refl _⟩ (m_MO_isSymbol h) (rest := []) rfl (Nat.le_of_ble_eq_true rfl) dMO_symbol_160 (gk_z (fun r5 M6 h => ?_))
        refine g_if_ne X dMO_symbol_163 (fun c => ?_) (fun c => ?_)
        · have h := h.1 c
          refine g_aload_n X dMO_symbol_168 rfl 0 rfl ?_
          refine g_getr X hK.1 fw_MO_25 ly_41 rfl dMO_symbol_169 ?_
          refine g_iload X dMO_symbol_172 6 rfl ?_
          refine g_iload_n X dMO_symbol_174 rfl 1 rfl ?_
          obtain ⟨hi, h⟩ := h
          refine g_iast X hK.1 ly_47 hi dMO_symbol_175 ?_
          refine g_topM (fun M7 eM7 => ?_)
          have h := h M7 eM7
          refine g_aload_n X dMO_symbol_176 rfl 0 rfl ?_
          refine g_getr X hK.1 fw_MO_28 ly_41 rfl dMO_symbol_177 ?_
          refine g_iload X dMO_symbol_180 6 rfl ?_
          refine g_iload_n X dMO_symbol_182 rfl 2 rfl ?_
          obtain ⟨hi, h⟩ := h
          refine g_iast X hK.1 ly_48 hi dMO_symbol_183 ?_
          refine g_topM (fun M8 eM8 => ?_)
          have h := h M8 eM8
          refine g_aload_n X dMO_symbol_184 rfl 0 rfl ?_
          refine g_getr X hK.1 fw_MO_31 ly_41 rfl dMO_symbol_185 ?_
          refine g_iload X dMO_symbol_188 6 rfl ?_
          refine g_iload_n X dMO_symbol_190 rfl 3 rfl ?_
          obtain ⟨hi, h⟩ := h
          refine g_iast X hK.1 ly_49 hi dMO_symbol_191 ?_
          refine g_topM (fun M9 eM9 => ?_)
          have h := h M9 eM9
          refine g_aload_n X dMO_symbol_192 rfl 0 rfl ?_
          refine g_getr X hK.1 fw_MO_34 ly_41 rfl dMO_symbol_193 ?_
          refine g_iload X dMO_symbol_196 6 rfl ?_
          refine g_iload X dMO_symbol_198 4 rfl ?_
          obtain ⟨hi, h⟩ := h
          refine g_iast X hK.1 ly_50 hi dMO_symbol_200 ?_
          refine g_topM (fun M10 eM10 => ?_)
          have h := h M10 eM10
          refine g_aload_n X dMO_symbol_201 rfl 0 rfl ?_
          refine g_getr X hK.1 fw_MO_37 ly_41 rfl dMO_symbol_202 ?_
          refine g_iload X dMO_symbol_205 6 rfl ?_
          refine g_iload X dMO_symbol_207 5 rfl ?_
          obtain ⟨hi, h⟩ := h
          refine g_iast X hK.1 ly_51 hi dMO_symbol_209 ?_
          refine g_topM (fun M11 eM11 => ?_)
          have h := h M11 eM11
          refine g_aload_n X dMO_symbol_210 rfl 0 rfl ?_
          refine g_getr X hK.1 fw_MO_46 ly_41 rfl dMO_symbol_211 ?_
          refine g_iconst X (v := (0 : Int32)) dMO_symbol_214 (by decide) ?_
          refine g_dup2_11 X dMO_symbol_215 rfl rfl ?_
          obtain ⟨hi, h⟩ := h
          refine g_iald X hK.1 ly_54 hi dMO_symbol_216 ?_
          refine g_iconst X (v := (1 : Int32)) dMO_symbol_217 (by decide) ?_
          refine g_iadd X dMO_symbol_218 ?_
          obtain ⟨hi, h⟩ := h
          refine g_iast X hK.1 ly_54 hi dMO_symbol_219 ?_
          refine g_topM (fun M12 eM12 => ?_)
          have h := h M12 eM12
          refine g_iload X dMO_symbol_220 6 rfl ?_
          exact g_iret X hr hlk dMO_symbol_222 ⟨_, rfl, h⟩
        · have h := h.2 c
          refine g_iconst X (v := (-1 : Int32)) dMO_symbol_166 (by decide) ?_
          exact g_iret X hr hlk dMO_symbol_167 ⟨_, rfl, h⟩
      · have h := h.2 c
        refine g_iload X dMO_symbol_120 4 rfl ?_
        refine g_if_eq X dMO_symbol_122 (fun c => ?_) (fun c => ?_)
        · have h := h.1 c
          obtain ⟨x13, ex13⟩ : ∃ z : Int32, z = v8 + (1 : Int32) := ⟨_, rfl⟩
          have h := h x13 ex13
          refine g_iinc X (L' := [(8, .int x13), (0, .ref (base + 41)), (1, .int v1), (2, .int v2), (3, .int v3), (4, .int v4), (5, .int v5), (7, .int v7)]) (k := 7) dMO_symbol_148 rfl (v := x13) (by rw [ex13]; rfl) (Nat.le_of_ble_eq_true rfl) rfl ?_
          refine g_goto X dMO_symbol_151 ?_
          refine g_sub (L' := [(0, .ref (base + 41)), (1, .int v1), (2, .int v2), (3, .int v3), (4, .int v4), (5, .int v5), (7, .int v7), (8, .int x13)]) [1, 2, 3, 4, 5, 6, 7, 0] rfl ?_
          exact ih v1 v2 v3 v4 v5 v7 x13 M h
        · have h := h.2 c
          refine g_aload_n X dMO_symbol_125 rfl 0 rfl ?_
          refine g_getr X hK.1 fw_MO_34 ly_41 rfl dMO_symbol_126 ?_
          refine g_iload X dMO_symbol_129 7 rfl ?_
          obtain ⟨hi, h⟩ := h
          refine g_iald X hK.1 ly_50 hi dMO_symbol_131 ?_
          refine g_if_eq X dMO_symbol_132 (fun c => ?_) (fun c => ?_)
          · have h := h.1 c
            obtain ⟨x14, ex14⟩ : ∃ z : Int32, z = v8 + (1 : Int32) := ⟨_, rfl⟩
            have h := h x14 ex14
            refine g_iinc X (L' := [(8, .int x14), (0, .ref (base + 41)), (1, .int v1), (2, .int v2), (3, .int v3), (4, .int v4), (5, .int v5), (7, .int v7)]) (k := 7) dMO_symbol_148 rfl (v := x14) (by rw [ex14]; rfl) (Nat.le_of_ble_eq_true rfl) rfl ?_
            refine g_goto X dMO_symbol_151 ?_
            refine g_sub (L' := [(0, .ref (base + 41)), (1, .int v1), (2, .int v2), (3, .int v3), (4, .int v4), (5, .int v5), (7, .int v7), (8, .int x14)]) [1, 2, 3, 4, 5, 6, 7, 0] rfl ?_
            exact ih v1 v2 v3 v4 v5 v7 x14 M h
          · have h := h.2 c
            refine g_aload_n X dMO_symbol_135 rfl 0 rfl ?_
            refine g_iload X dMO_symbol_136 6 rfl ?_
            refine g_iload X dMO_symbol_138 7 rfl ?_
            refine g_callV X hK gTs_ok ly_41 rfl mw_MO_isSameName tw_1092 mi_MO_isSameName ms_MO_isSameName (As := [.int v7, .int v8]) rfl ⟨(Nat.le_of_ble_eq_true rfl), (Nat.le_of_ble_eq_true rfl), Nat.le_refl _, Nat.le_refl _⟩ (m_MO_isSameName h) (rest := []) rfl (Nat.le_of_ble_eq_true rfl) dMO_symbol_140 (gk_z (fun r15 M16 h => ?_))
            refine g_if_eq X dMO_symbol_143 (fun c => ?_) (fun c => ?_)
            · have h := h.1 c
              obtain ⟨x17, ex17⟩ : ∃ z : Int32, z = v8 + (1 : Int32) := ⟨_, rfl⟩
              have h := h x17 ex17
              refine g_iinc X (L' := [(8, .int x17), (0, .ref (base + 41)), (1, .int v1), (2, .int v2), (3, .int v3), (4, .int v4), (5, .int v5), (7, .int v7)]) (k := 7) dMO_symbol_148 rfl (v := x17) (by rw [ex17]; rfl) (Nat.le_of_ble_eq_true rfl) rfl ?_
              refine g_goto X dMO_symbol_151 ?_
              refine g_sub (L' := [(0, .ref (base + 41)), (1, .int v1), (2, .int v2), (3, .int v3), (4, .int v4), (5, .int v5), (7, .int v7), (8, .int x17)]) [1, 2, 3, 4, 5, 6, 7, 0] rfl ?_
              exact ih v1 v2 v3 v4 v5 v7 x17 M16 h
            · have h := h.2 c
              refine g_iconst X (v := (-1 : Int32)) dMO_symbol_146 (by decide) ?_
              exact g_iret X hr hlk dMO_symbol_147 ⟨_, rfl, h⟩
  have r_77 : ∀ (n : Nat) (v1 : Int32) (v2 : Int32) (v3 : Int32) (v4 : Int32) (v5 : Int32) (v6 : Int32) (v7 : Int32) (v8 : Int32) (M : gMem), wl_MO_symbol_77 post n v1 v2 v3 v4 v5 v6 v7 v8 M → GMx D ta base p l e 2 44 s m [.ref (base + 41), .int a0, .int a1, .int a2, .int a3, .int a4] below meth c (gPi post) 9 77 [(0, .ref (base + 41)), (1, .int v1), (2, .int v2), (3, .int v3), (4, .int v4), (5, .int v5), (6, .int v6), (7, .int v7), (8, .int v8)] [] M := by
    intro n
    induction n with
    | zero => exact fun _ _ _ _ _ _ _ _ M h => h.elim
    | succ n ih =>
      intro v1 v2 v3 v4 v5 v6 v7 v8 M h
      refine g_iload X dMO_symbol_77 8 rfl ?_
      refine g_iload X dMO_symbol_79 6 rfl ?_
      refine g_icmp_ge X dMO_symbol_81 (fun c => ?_) (fun c => ?_)
      · have h := h.1 c
        refine g_iconst X (v := (0 : Int32)) dMO_symbol_110 (by decide) ?_
        refine g_istore X (L' := [(8, .int (0 : Int32)), (0, .ref (base + 41)), (1, .int v1), (2, .int v2), (3, .int v3), (4, .int v4), (5, .int v5), (6, .int v6), (7, .int v7)]) dMO_symbol_111 (Nat.le_of_ble_eq_true rfl) rfl ?_
        refine g_sub (L' := [(0, .ref (base + 41)), (1, .int v1), (2, .int v2), (3, .int v3), (4, .int v4), (5, .int v5), (7, .int v7), (8, .int (0 : Int32))]) [1, 2, 3, 4, 5, 6, 8, 0] rfl ?_
        obtain ⟨n9, h⟩ := h
        exact r_113 n9 v1 v2 v3 v4 v5 v7 (0 : Int32) M h
      · have h := h.2 c
        refine g_aload_n X dMO_symbol_84 rfl 0 rfl ?_
        refine g_getr X hK.1 fw_MO_43 ly_41 rfl dMO_symbol_85 ?_
        refine g_bipush X (v := (16 : Int32)) dMO_symbol_88 (by decide) ?_
        refine g_iload X dMO_symbol_90 7 rfl ?_
        refine g_imul X dMO_symbol_92 ?_
        refine g_iload X dMO_symbol_93 8 rfl ?_
        refine g_iadd X dMO_symbol_95 ?_
        refine g_aload_n X dMO_symbol_96 rfl 0 rfl ?_
        refine g_getr X hK.1 fw_MO_67 ly_41 rfl dMO_symbol_97 ?_
        refine g_iload X dMO_symbol_100 8 rfl ?_
        obtain ⟨hi, h⟩ := h
        refine g_iald X hK.1 ly_61 hi dMO_symbol_102 ?_
        obtain ⟨hi, h⟩ := h
        refine g_iast X hK.1 ly_53 hi dMO_symbol_103 ?_
        refine g_topM (fun M18 eM18 => ?_)
        have h := h M18 eM18
        obtain ⟨x19, ex19⟩ : ∃ z : Int32, z = v8 + (1 : Int32) := ⟨_, rfl⟩
        have h := h x19 ex19
        refine g_iinc X (L' := [(8, .int x19), (0, .ref (base + 41)), (1, .int v1), (2, .int v2), (3, .int v3), (4, .int v4), (5, .int v5), (6, .int v6), (7, .int v7)]) (k := 8) dMO_symbol_104 rfl (v := x19) (by rw [ex19]; rfl) (Nat.le_of_ble_eq_true rfl) rfl ?_
        refine g_goto X dMO_symbol_107 ?_
        refine g_sub (L' := [(0, .ref (base + 41)), (1, .int v1), (2, .int v2), (3, .int v3), (4, .int v4), (5, .int v5), (6, .int v6), (7, .int v7), (8, .int x19)]) [1, 2, 3, 4, 5, 6, 7, 8, 0] rfl ?_
        exact ih v1 v2 v3 v4 v5 v6 v7 x19 M18 h
  refine g_args (L' := [(0, .ref (base + 41)), (1, .int a0), (2, .int a1), (3, .int a2), (4, .int a3), (5, .int a4)]) rfl ?_
  unfold wp_MO_symbol at h
  refine g_aload_n X dMO_symbol_0 rfl 0 rfl ?_
  refine g_geti X hK.1 fw_MO_134 ly_41 rfl dMO_symbol_1 ?_
  refine g_topi (fun x1 ex1 => ?_)
  have h := h x1 ex1
  refine g_istore X (L' := [(6, .int x1), (0, .ref (base + 41)), (1, .int a0), (2, .int a1), (3, .int a2), (4, .int a3), (5, .int a4)]) dMO_symbol_4 (Nat.le_of_ble_eq_true rfl) rfl ?_
  refine g_aload_n X dMO_symbol_6 rfl 1 rfl ?_
  refine g_iconst X (v := (0 : Int32)) dMO_symbol_7 (by decide) ?_
  refine g_puti X hK.1 fw_MO_134 pw_MO_20 ly_41 rfl dMO_symbol_8 ?_
  refine g_topM (fun M2 eM2 => ?_)
  have h := h M2 eM2
  refine g_aload_n X dMO_symbol_11 rfl 1 rfl ?_
  refine g_getr X hK.1 fw_MO_46 ly_41 rfl dMO_symbol_12 ?_
  refine g_iconst X (v := (0 : Int32)) dMO_symbol_15 (by decide) ?_
  obtain ⟨hi, h⟩ := h
  refine g_iald X hK.1 ly_54 hi dMO_symbol_16 ?_
  refine g_topi (fun x3 ex3 => ?_)
  have h := h x3 ex3
  refine g_istore X (L' := [(7, .int x3), (6, .int x1), (0, .ref (base + 41)), (1, .int a0), (2, .int a1), (3, .int a2), (4, .int a3), (5, .int a4)]) dMO_symbol_17 (Nat.le_of_ble_eq_true rfl) rfl ?_
  refine g_iload X dMO_symbol_19 0 rfl ?_
  refine g_bipush X (v := (100 : Int32)) dMO_symbol_21 (by decide) ?_
  refine g_icmp_eq X dMO_symbol_23 (fun c => ?_) (fun c => ?_)
  · have h := h.1 c
    refine g_iconst X (v := (-1 : Int32)) dMO_symbol_63 (by decide) ?_
    exact g_iret X hr hlk dMO_symbol_64 ⟨_, rfl, h⟩
  · have h := h.2 c
    refine g_iload X dMO_symbol_26 1 rfl ?_
    refine g_if_eq X dMO_symbol_28 (fun c => ?_) (fun c => ?_)
    · have h := h.1 c
      refine g_iconst X (v := (-1 : Int32)) dMO_symbol_63 (by decide) ?_
      exact g_iret X hr hlk dMO_symbol_64 ⟨_, rfl, h⟩
    · have h := h.2 c
      refine g_iload_n X dMO_symbol_31 rfl 3 rfl ?_
      refine g_iconst X (v := (-1 : Int32)) dMO_symbol_32 (by decide) ?_
      refine g_icmp_lt X dMO_symbol_33 (fun c => ?_) (fun c => ?_)
      · have h := h.1 c
        refine g_iconst X (v := (-1 : Int32)) dMO_symbol_63 (by decide) ?_
        exact g_iret X hr hlk dMO_symbol_64 ⟨_, rfl, h⟩
      · have h := h.2 c
        refine g_iload_n X dMO_symbol_36 rfl 3 rfl ?_
        refine g_iconst X (v := (5 : Int32)) dMO_symbol_37 (by decide) ?_
        refine g_icmp_gt X dMO_symbol_38 (fun c => ?_) (fun c => ?_)
        · have h := h.1 c
          refine g_iconst X (v := (-1 : Int32)) dMO_symbol_63 (by decide) ?_
          exact g_iret X hr hlk dMO_symbol_64 ⟨_, rfl, h⟩
        · have h := h.2 c
          refine g_iload X dMO_symbol_41 6 rfl ?_
          refine g_if_lt X dMO_symbol_43 (fun c => ?_) (fun c => ?_)
          · have h := h.1 c
            refine g_iconst X (v := (-1 : Int32)) dMO_symbol_63 (by decide) ?_
            exact g_iret X hr hlk dMO_symbol_64 ⟨_, rfl, h⟩
          · have h := h.2 c
            refine g_iload X dMO_symbol_46 6 rfl ?_
            refine g_iconst X (v := (2 : Int32)) dMO_symbol_48 (by decide) ?_
            refine g_icmp_gt X dMO_symbol_49 (fun c => ?_) (fun c => ?_)
            · have h := h.1 c
              refine g_iconst X (v := (-1 : Int32)) dMO_symbol_63 (by decide) ?_
              exact g_iret X hr hlk dMO_symbol_64 ⟨_, rfl, h⟩
            · have h := h.2 c
              refine g_iload X dMO_symbol_52 7 rfl ?_
              refine g_if_lt X dMO_symbol_54 (fun c => ?_) (fun c => ?_)
              · have h := h.1 c
                refine g_iconst X (v := (-1 : Int32)) dMO_symbol_63 (by decide) ?_
                exact g_iret X hr hlk dMO_symbol_64 ⟨_, rfl, h⟩
              · have h := h.2 c
                refine g_iload X dMO_symbol_57 7 rfl ?_
                refine g_iconst X (v := (2 : Int32)) dMO_symbol_59 (by decide) ?_
                refine g_icmp_le X dMO_symbol_60 (fun c => ?_) (fun c => ?_)
                · have h := h.1 c
                  refine g_aload_n X dMO_symbol_65 rfl 2 rfl ?_
                  refine g_getr X hK.1 fw_MO_40 ly_41 rfl dMO_symbol_66 ?_
                  refine g_iload X dMO_symbol_69 0 rfl ?_
                  refine g_iload X dMO_symbol_71 1 rfl ?_
                  obtain ⟨hi, h⟩ := h
                  refine g_iast X hK.1 ly_52 hi dMO_symbol_73 ?_
                  refine g_topM (fun M4 eM4 => ?_)
                  have h := h M4 eM4
                  refine g_iconst X (v := (0 : Int32)) dMO_symbol_74 (by decide) ?_
                  refine g_istore X (L' := [(8, .int (0 : Int32)), (7, .int x3), (6, .int x1), (0, .ref (base + 41)), (1, .int a0), (2, .int a1), (3, .int a2), (4, .int a3), (5, .int a4)]) dMO_symbol_75 (Nat.le_of_ble_eq_true rfl) rfl ?_
                  refine g_sub (L' := [(0, .ref (base + 41)), (1, .int a0), (2, .int a1), (3, .int a2), (4, .int a3), (5, .int a4), (6, .int x1), (7, .int x3), (8, .int (0 : Int32))]) [3, 4, 5, 6, 7, 8, 2, 1, 0] rfl ?_
                  obtain ⟨n9, h⟩ := h
                  exact r_77 n9 a0 a1 a2 a3 a4 x1 x3 (0 : Int32) M4 h
                · have h := h.2 c
                  refine g_iconst X (v := (-1 : Int32)) dMO_symbol_63 (by decide) ?_
                  exact g_iret X hr hlk dMO_symbol_64 ⟨_, rfl, h⟩
set_option maxRecDepth 100000 in
set_option maxHeartbeats 4000000 in
theorem m_MO_isKind {l : Launch} {D : va_G} {ta : Nat → ClassId} {base : Nat} {sa : Nat → Nat} {post : Bool → gMem → Prop} {a0 : Int32} {M : gMem} (h : wp_MO_isKind post a0 M) : GC gLay gCl D ta base gNw sa gTabs gTs l y_MO_isKind b_MO_isKind 1 (some .boolean) 0 0 [.int a0] M (gPz post) := by
  refine GC.of (own := "ObjectFileModel") pn_MO rfl (Nat.le_of_ble_eq_true rfl) ?_
  intro p e s m below meth c X hK hr hlk
  have r_71 : ∀ (v0 : Int32) (M : gMem), wj_MO_isKind_71 post v0 M → GMx D ta base p l e 0 0 s m [.int a0] below meth c (gPz post) 1 71 [(0, .int v0)] [] M := by
    intro v0 M h
    unfold wj_MO_isKind_71 at h
    refine g_iload_n X dMO_isKind_71 rfl 0 rfl ?_
    refine g_bipush X (v := (51 : Int32)) dMO_isKind_72 (by decide) ?_
    refine g_icmp_ne X dMO_isKind_74 (fun c => ?_) (fun c => ?_)
    · have h := h.1 c
      refine g_iconst X (v := (0 : Int32)) dMO_isKind_81 (by decide) ?_
      exact g_zret X hr hlk (by decide) dMO_isKind_82 ⟨false, rfl, h⟩
    · have h := h.2 c
      refine g_iconst X (v := (1 : Int32)) dMO_isKind_77 (by decide) ?_
      refine g_goto X dMO_isKind_78 ?_
      exact g_zret X hr hlk (by decide) dMO_isKind_82 ⟨true, rfl, h⟩
  have r_59 : ∀ (v0 : Int32) (M : gMem), wj_MO_isKind_59 post v0 M → GMx D ta base p l e 0 0 s m [.int a0] below meth c (gPz post) 1 59 [(0, .int v0)] [] M := by
    intro v0 M h
    unfold wj_MO_isKind_59 at h
    refine g_iload_n X dMO_isKind_59 rfl 0 rfl ?_
    refine g_bipush X (v := (43 : Int32)) dMO_isKind_60 (by decide) ?_
    refine g_icmp_lt X dMO_isKind_62 (fun c => ?_) (fun c => ?_)
    · have h := h.1 c
      exact r_71 v0 M h
    · have h := h.2 c
      refine g_iload_n X dMO_isKind_65 rfl 0 rfl ?_
      refine g_bipush X (v := (45 : Int32)) dMO_isKind_66 (by decide) ?_
      refine g_icmp_le X dMO_isKind_68 (fun c => ?_) (fun c => ?_)
      · have h := h.1 c
        refine g_iconst X (v := (1 : Int32)) dMO_isKind_77 (by decide) ?_
        refine g_goto X dMO_isKind_78 ?_
        exact g_zret X hr hlk (by decide) dMO_isKind_82 ⟨true, rfl, h⟩
      · have h := h.2 c
        exact r_71 v0 M h
  have r_47 : ∀ (v0 : Int32) (M : gMem), wj_MO_isKind_47 post v0 M → GMx D ta base p l e 0 0 s m [.int a0] below meth c (gPz post) 1 47 [(0, .int v0)] [] M := by
    intro v0 M h
    unfold wj_MO_isKind_47 at h
    refine g_iload_n X dMO_isKind_47 rfl 0 rfl ?_
    refine g_bipush X (v := (37 : Int32)) dMO_isKind_48 (by decide) ?_
    refine g_icmp_lt X dMO_isKind_50 (fun c => ?_) (fun c => ?_)
    · have h := h.1 c
      exact r_59 v0 M h
    · have h := h.2 c
      refine g_iload_n X dMO_isKind_53 rfl 0 rfl ?_
      refine g_bipush X (v := (39 : Int32)) dMO_isKind_54 (by decide) ?_
      refine g_icmp_le X dMO_isKind_56 (fun c => ?_) (fun c => ?_)
      · have h := h.1 c
        refine g_iconst X (v := (1 : Int32)) dMO_isKind_77 (by decide) ?_
        refine g_goto X dMO_isKind_78 ?_
        exact g_zret X hr hlk (by decide) dMO_isKind_82 ⟨true, rfl, h⟩
      · have h := h.2 c
        exact r_59 v0 M h
  have r_35 : ∀ (v0 : Int32) (M : gMem), wj_MO_isKind_35 post v0 M → GMx D ta base p l e 0 0 s m [.int a0] below meth c (gPz post) 1 35 [(0, .int v0)] [] M := by
    intro v0 M h
    unfold wj_MO_isKind_35 at h
    refine g_iload_n X dMO_isKind_35 rfl 0 rfl ?_
    refine g_bipush X (v := (33 : Int32)) dMO_isKind_36 (by decide) ?_
    refine g_icmp_lt X dMO_isKind_38 (fun c => ?_) (fun c => ?_)
    · have h := h.1 c
      exact r_47 v0 M h
    · have h := h.2 c
      refine g_iload_n X dMO_isKind_41 rfl 0 rfl ?_
      refine g_bipush X (v := (35 : Int32)) dMO_isKind_42 (by decide) ?_
      refine g_icmp_le X dMO_isKind_44 (fun c => ?_) (fun c => ?_)
      · have h := h.1 c
        refine g_iconst X (v := (1 : Int32)) dMO_isKind_77 (by decide) ?_
        refine g_goto X dMO_isKind_78 ?_
        exact g_zret X hr hlk (by decide) dMO_isKind_82 ⟨true, rfl, h⟩
      · have h := h.2 c
        exact r_47 v0 M h
  refine g_args (L' := [(0, .int a0)]) rfl ?_
  unfold wp_MO_isKind at h
  refine g_iload_n X dMO_isKind_0 rfl 0 rfl ?_
  refine g_iconst X (v := (1 : Int32)) dMO_isKind_1 (by decide) ?_
  refine g_icmp_eq X dMO_isKind_2 (fun c => ?_) (fun c => ?_)
  · have h := h.1 c
    refine g_iconst X (v := (1 : Int32)) dMO_isKind_77 (by decide) ?_
    refine g_goto X dMO_isKind_78 ?_
    exact g_zret X hr hlk (by decide) dMO_isKind_82 ⟨true, rfl, h⟩
  · have h := h.2 c
    refine g_iload_n X dMO_isKind_5 rfl 0 rfl ?_
    refine g_bipush X (v := (16 : Int32)) dMO_isKind_6 (by decide) ?_
    refine g_icmp_eq X dMO_isKind_8 (fun c => ?_) (fun c => ?_)
    · have h := h.1 c
      refine g_iconst X (v := (1 : Int32)) dMO_isKind_77 (by decide) ?_
      refine g_goto X dMO_isKind_78 ?_
      exact g_zret X hr hlk (by decide) dMO_isKind_82 ⟨true, rfl, h⟩
    · have h := h.2 c
      refine g_iload_n X dMO_isKind_11 rfl 0 rfl ?_
      refine g_bipush X (v := (17 : Int32)) dMO_isKind_12 (by decide) ?_
      refine g_icmp_eq X dMO_isKind_14 (fun c => ?_) (fun c => ?_)
      · have h := h.1 c
        refine g_iconst X (v := (1 : Int32)) dMO_isKind_77 (by decide) ?_
        refine g_goto X dMO_isKind_78 ?_
        exact g_zret X hr hlk (by decide) dMO_isKind_82 ⟨true, rfl, h⟩
      · have h := h.2 c
        refine g_iload_n X dMO_isKind_17 rfl 0 rfl ?_
        refine g_bipush X (v := (19 : Int32)) dMO_isKind_18 (by decide) ?_
        refine g_icmp_eq X dMO_isKind_20 (fun c => ?_) (fun c => ?_)
        · have h := h.1 c
          refine g_iconst X (v := (1 : Int32)) dMO_isKind_77 (by decide) ?_
          refine g_goto X dMO_isKind_78 ?_
          exact g_zret X hr hlk (by decide) dMO_isKind_82 ⟨true, rfl, h⟩
        · have h := h.2 c
          refine g_iload_n X dMO_isKind_23 rfl 0 rfl ?_
          refine g_bipush X (v := (23 : Int32)) dMO_isKind_24 (by decide) ?_
          refine g_icmp_lt X dMO_isKind_26 (fun c => ?_) (fun c => ?_)
          · have h := h.1 c
            exact r_35 a0 M h
          · have h := h.2 c
            refine g_iload_n X dMO_isKind_29 rfl 0 rfl ?_
            refine g_bipush X (v := (28 : Int32)) dMO_isKind_30 (by decide) ?_
            refine g_icmp_le X dMO_isKind_32 (fun c => ?_) (fun c => ?_)
            · have h := h.1 c
              refine g_iconst X (v := (1 : Int32)) dMO_isKind_77 (by decide) ?_
              refine g_goto X dMO_isKind_78 ?_
              exact g_zret X hr hlk (by decide) dMO_isKind_82 ⟨true, rfl, h⟩
            · have h := h.2 c
              exact r_35 a0 M h
set_option maxRecDepth 100000 in
set_option maxHeartbeats 4000000 in
theorem m_MO_isKindOf {l : Launch} {D : va_G} {ta : Nat → ClassId} {base : Nat} {sa : Nat → Nat} {post : Bool → gMem → Prop} {a0 : Int32} {a1 : Int32} {M : gMem} (h : wp_MO_isKindOf post a0 a1 M) : GC gLay gCl D ta base gNw sa gTabs gTs l y_MO_isKindOf b_MO_isKindOf 2 (some .boolean) 1 20 [.int a0, .int a1] M (gPz post) := by
  refine GC.of (own := "ObjectFileModel") pn_MO rfl (Nat.le_of_ble_eq_true rfl) ?_
  intro p e s m below meth c X hK hr hlk
  refine g_args (L' := [(0, .int a0), (1, .int a1)]) rfl ?_
  unfold wp_MO_isKindOf at h
  refine g_iload_n X dMO_isKindOf_0 rfl 0 rfl ?_
  refine g_callS X hK gTs_ok mw_MO_isKind tw_1110 mt_MO_isKind (As := [.int a0]) rfl ⟨(Nat.le_of_ble_eq_true rfl), (Nat.le_of_ble_eq_true rfl), Nat.le_refl _, Nat.le_refl _⟩ (m_MO_isKind h) (rest := []) rfl (Nat.le_of_ble_eq_true rfl) dMO_isKindOf_1 (gk_z (fun r1 M2 h => ?_))
  refine g_if_eq X dMO_isKindOf_4 (fun c => ?_) (fun c => ?_)
  · have h := h.1 c
    refine g_iconst X (v := (0 : Int32)) dMO_isKindOf_32 (by decide) ?_
    exact g_zret X hr hlk (by decide) dMO_isKindOf_33 ⟨false, rfl, h⟩
  · have h := h.2 c
    refine g_iload_n X dMO_isKindOf_7 rfl 1 rfl ?_
    refine g_if_eq X dMO_isKindOf_8 (fun c => ?_) (fun c => ?_)
    · have h := h.1 c
      refine g_iconst X (v := (1 : Int32)) dMO_isKindOf_28 (by decide) ?_
      refine g_goto X dMO_isKindOf_29 ?_
      exact g_zret X hr hlk (by decide) dMO_isKindOf_33 ⟨true, rfl, h⟩
    · have h := h.2 c
      refine g_iload_n X dMO_isKindOf_11 rfl 0 rfl ?_
      refine g_iconst X (v := (1 : Int32)) dMO_isKindOf_12 (by decide) ?_
      refine g_icmp_eq X dMO_isKindOf_13 (fun c => ?_) (fun c => ?_)
      · have h := h.1 c
        refine g_iconst X (v := (1 : Int32)) dMO_isKindOf_28 (by decide) ?_
        refine g_goto X dMO_isKindOf_29 ?_
        exact g_zret X hr hlk (by decide) dMO_isKindOf_33 ⟨true, rfl, h⟩
      · have h := h.2 c
        refine g_iload_n X dMO_isKindOf_16 rfl 0 rfl ?_
        refine g_bipush X (v := (33 : Int32)) dMO_isKindOf_17 (by decide) ?_
        refine g_icmp_lt X dMO_isKindOf_19 (fun c => ?_) (fun c => ?_)
        · have h := h.1 c
          refine g_iconst X (v := (0 : Int32)) dMO_isKindOf_32 (by decide) ?_
          exact g_zret X hr hlk (by decide) dMO_isKindOf_33 ⟨false, rfl, h⟩
        · have h := h.2 c
          refine g_iload_n X dMO_isKindOf_22 rfl 0 rfl ?_
          refine g_bipush X (v := (39 : Int32)) dMO_isKindOf_23 (by decide) ?_
          refine g_icmp_gt X dMO_isKindOf_25 (fun c => ?_) (fun c => ?_)
          · have h := h.1 c
            refine g_iconst X (v := (0 : Int32)) dMO_isKindOf_32 (by decide) ?_
            exact g_zret X hr hlk (by decide) dMO_isKindOf_33 ⟨false, rfl, h⟩
          · have h := h.2 c
            refine g_iconst X (v := (1 : Int32)) dMO_isKindOf_28 (by decide) ?_
            refine g_goto X dMO_isKindOf_29 ?_
            exact g_zret X hr hlk (by decide) dMO_isKindOf_33 ⟨true, rfl, h⟩
set_option maxRecDepth 100000 in
set_option maxHeartbeats 4000000 in
theorem m_MO_isAlone {l : Launch} {D : va_G} {ta : Nat → ClassId} {base : Nat} {sa : Nat → Nat} {post : Bool → gMem → Prop} {a0 : Int32} {M : gMem} (h : wp_MO_isAlone post a0 M) : GC gLay gCl D ta base gNw sa gTabs gTs l y_MO_isAlone b_MO_isAlone 1 (some .boolean) 0 0 [.int a0] M (gPz post) := by
  refine GC.of (own := "ObjectFileModel") pn_MO rfl (Nat.le_of_ble_eq_true rfl) ?_
  intro p e s m below meth c X hK hr hlk
  refine g_args (L' := [(0, .int a0)]) rfl ?_
  unfold wp_MO_isAlone at h
  refine g_iload_n X dMO_isAlone_0 rfl 0 rfl ?_
  refine g_bipush X (v := (43 : Int32)) dMO_isAlone_1 (by decide) ?_
  refine g_icmp_eq X dMO_isAlone_3 (fun c => ?_) (fun c => ?_)
  · have h := h.1 c
    refine g_iconst X (v := (1 : Int32)) dMO_isAlone_12 (by decide) ?_
    refine g_goto X dMO_isAlone_13 ?_
    exact g_zret X hr hlk (by decide) dMO_isAlone_17 ⟨true, rfl, h⟩
  · have h := h.2 c
    refine g_iload_n X dMO_isAlone_6 rfl 0 rfl ?_
    refine g_bipush X (v := (51 : Int32)) dMO_isAlone_7 (by decide) ?_
    refine g_icmp_ne X dMO_isAlone_9 (fun c => ?_) (fun c => ?_)
    · have h := h.1 c
      refine g_iconst X (v := (0 : Int32)) dMO_isAlone_16 (by decide) ?_
      exact g_zret X hr hlk (by decide) dMO_isAlone_17 ⟨false, rfl, h⟩
    · have h := h.2 c
      refine g_iconst X (v := (1 : Int32)) dMO_isAlone_12 (by decide) ?_
      refine g_goto X dMO_isAlone_13 ?_
      exact g_zret X hr hlk (by decide) dMO_isAlone_17 ⟨true, rfl, h⟩
set_option maxRecDepth 100000 in
set_option maxHeartbeats 4000000 in
theorem m_MO_isSkip {l : Launch} {D : va_G} {ta : Nat → ClassId} {base : Nat} {sa : Nat → Nat} {post : Bool → gMem → Prop} {a0 : Int64} {M : gMem} (h : wp_MO_isSkip post a0 M) : GC gLay gCl D ta base gNw sa gTabs gTs l y_MO_isSkip b_MO_isSkip 2 (some .boolean) 0 0 [.long a0] M (gPz post) := by
  refine GC.of (own := "ObjectFileModel") pn_MO rfl (Nat.le_of_ble_eq_true rfl) ?_
  intro p e s m below meth c X hK hr hlk
  refine g_args (L' := [(0, .long a0)]) rfl ?_
  unfold wp_MO_isSkip at h
  refine g_lload_n X dMO_isSkip_0 rfl 0 rfl ?_
  refine g_lconst X (v := (0 : Int64)) dMO_isSkip_1 (by decide) ?_
  refine g_lif_lt X dMO_isSkip_2 dMO_isSkip_3 (fun c => ?_) (fun c => ?_)
  · have h := h.1 c
    refine g_iconst X (v := (0 : Int32)) dMO_isSkip_28 (by decide) ?_
    exact g_zret X hr hlk (by decide) dMO_isSkip_29 ⟨false, rfl, h⟩
  · have h := h.2 c
    refine g_lload_n X dMO_isSkip_6 rfl 0 rfl ?_
    refine g_ldc2 X (v := (62 : Int64)) (tw_1119) dMO_isSkip_7 ?_
    refine g_lif_gt X dMO_isSkip_10 dMO_isSkip_11 (fun c => ?_) (fun c => ?_)
    · have h := h.1 c
      refine g_iconst X (v := (0 : Int32)) dMO_isSkip_28 (by decide) ?_
      exact g_zret X hr hlk (by decide) dMO_isSkip_29 ⟨false, rfl, h⟩
    · have h := h.2 c
      refine g_lload_n X dMO_isSkip_14 rfl 0 rfl ?_
      refine g_ldc2 X (v := (2 : Int64)) (tw_1120) dMO_isSkip_15 ?_
      refine g_lrem X dMO_isSkip_18 (by decide) ?_
      refine g_lconst X (v := (0 : Int64)) dMO_isSkip_19 (by decide) ?_
      refine g_lif_ne X dMO_isSkip_20 dMO_isSkip_21 (fun c => ?_) (fun c => ?_)
      · have h := h.1 c
        refine g_iconst X (v := (0 : Int32)) dMO_isSkip_28 (by decide) ?_
        exact g_zret X hr hlk (by decide) dMO_isSkip_29 ⟨false, rfl, h⟩
      · have h := h.2 c
        refine g_iconst X (v := (1 : Int32)) dMO_isSkip_24 (by decide) ?_
        refine g_goto X dMO_isSkip_25 ?_
        exact g_zret X hr hlk (by decide) dMO_isSkip_29 ⟨true, rfl, h⟩
set_option maxRecDepth 100000 in
set_option maxHeartbeats 4000000 in
theorem m_MO_relocation {l : Launch} {D : va_G} {ta : Nat → ClassId} {base : Nat} {sa : Nat → Nat} {post : Int32 → gMem → Prop} {a0 : Int32} {a1 : Int32} {a2 : Int32} {a3 : Int32} {a4 : Int32} {M : gMem} (h : wp_MO_relocation post a0 a1 a2 a3 a4 M) : GC gLay gCl D ta base gNw sa gTabs gTs l y_MO_relocation b_MO_relocation 7 (some .int) 2 41 [.ref (base + 41), .int a0, .int a1, .int a2, .int a3, .int a4] M (gPi post) := by
  refine GC.of (own := "ObjectFileModel") pn_MO rfl (Nat.le_of_ble_eq_true rfl) ?_
  intro p e s m below meth c X hK hr hlk
  have r_85 : ∀ (v1 : Int32) (v2 : Int32) (v3 : Int32) (v4 : Int32) (v5 : Int32) (v6 : Int32) (M : gMem), wj_MO_relocation_85 post v1 v2 v3 v4 v5 v6 M → GMx D ta base p l e 2 41 s m [.ref (base + 41), .int a0, .int a1, .int a2, .int a3, .int a4] below meth c (gPi post) 7 85 [(0, .ref (base + 41)), (1, .int v1), (2, .int v2), (3, .int v3), (4, .int v4), (5, .int v5), (6, .int v6)] [] M := by
    intro v1 v2 v3 v4 v5 v6 M h
    unfold wj_MO_relocation_85 at h
    refine g_iload_n X dMO_relocation_85 rfl 2 rfl ?_
    refine g_if_ge X dMO_relocation_86 (fun c => ?_) (fun c => ?_)
    · have h := h.1 c
      refine g_aload_n X dMO_relocation_91 rfl 0 rfl ?_
      refine g_getr X hK.1 fw_MO_49 ly_41 rfl dMO_relocation_92 ?_
      refine g_iload X dMO_relocation_95 6 rfl ?_
      refine g_iload_n X dMO_relocation_97 rfl 1 rfl ?_
      obtain ⟨hi, h⟩ := h
      refine g_iast X hK.1 ly_55 hi dMO_relocation_98 ?_
      refine g_topM (fun M6 eM6 => ?_)
      have h := h M6 eM6
      refine g_aload_n X dMO_relocation_99 rfl 0 rfl ?_
      refine g_getr X hK.1 fw_MO_52 ly_41 rfl dMO_relocation_100 ?_
      refine g_iload X dMO_relocation_103 6 rfl ?_
      refine g_iload_n X dMO_relocation_105 rfl 2 rfl ?_
      obtain ⟨hi, h⟩ := h
      refine g_iast X hK.1 ly_56 hi dMO_relocation_106 ?_
      refine g_topM (fun M7 eM7 => ?_)
      have h := h M7 eM7
      refine g_aload_n X dMO_relocation_107 rfl 0 rfl ?_
      refine g_getr X hK.1 fw_MO_55 ly_41 rfl dMO_relocation_108 ?_
      refine g_iload X dMO_relocation_111 6 rfl ?_
      refine g_iload_n X dMO_relocation_113 rfl 3 rfl ?_
      obtain ⟨hi, h⟩ := h
      refine g_iast X hK.1 ly_57 hi dMO_relocation_114 ?_
      refine g_topM (fun M8 eM8 => ?_)
      have h := h M8 eM8
      refine g_aload_n X dMO_relocation_115 rfl 0 rfl ?_
      refine g_getr X hK.1 fw_MO_58 ly_41 rfl dMO_relocation_116 ?_
      refine g_iload X dMO_relocation_119 6 rfl ?_
      refine g_iload X dMO_relocation_121 4 rfl ?_
      obtain ⟨hi, h⟩ := h
      refine g_iast X hK.1 ly_58 hi dMO_relocation_123 ?_
      refine g_topM (fun M9 eM9 => ?_)
      have h := h M9 eM9
      refine g_aload_n X dMO_relocation_124 rfl 0 rfl ?_
      refine g_getr X hK.1 fw_MO_61 ly_41 rfl dMO_relocation_125 ?_
      refine g_iload X dMO_relocation_128 6 rfl ?_
      refine g_iload X dMO_relocation_130 5 rfl ?_
      obtain ⟨hi, h⟩ := h
      refine g_iast X hK.1 ly_59 hi dMO_relocation_132 ?_
      refine g_topM (fun M10 eM10 => ?_)
      have h := h M10 eM10
      refine g_aload_n X dMO_relocation_133 rfl 0 rfl ?_
      refine g_getr X hK.1 fw_MO_64 ly_41 rfl dMO_relocation_134 ?_
      refine g_iconst X (v := (0 : Int32)) dMO_relocation_137 (by decide) ?_
      refine g_dup2_11 X dMO_relocation_138 rfl rfl ?_
      obtain ⟨hi, h⟩ := h
      refine g_iald X hK.1 ly_60 hi dMO_relocation_139 ?_
      refine g_iconst X (v := (1 : Int32)) dMO_relocation_140 (by decide) ?_
      refine g_iadd X dMO_relocation_141 ?_
      obtain ⟨hi, h⟩ := h
      refine g_iast X hK.1 ly_60 hi dMO_relocation_142 ?_
      refine g_topM (fun M11 eM11 => ?_)
      have h := h M11 eM11
      refine g_iload X dMO_relocation_143 6 rfl ?_
      exact g_iret X hr hlk dMO_relocation_145 ⟨_, rfl, h⟩
    · have h := h.2 c
      refine g_iconst X (v := (-1 : Int32)) dMO_relocation_89 (by decide) ?_
      exact g_iret X hr hlk dMO_relocation_90 ⟨_, rfl, h⟩
  have r_67 : ∀ (v1 : Int32) (v2 : Int32) (v3 : Int32) (v4 : Int32) (v5 : Int32) (v6 : Int32) (s0 : Int32) (s1 : Int32) (M : gMem), wj_MO_relocation_67 post v1 v2 v3 v4 v5 v6 s0 s1 M → GMx D ta base p l e 2 41 s m [.ref (base + 41), .int a0, .int a1, .int a2, .int a3, .int a4] below meth c (gPi post) 7 67 [(0, .ref (base + 41)), (1, .int v1), (2, .int v2), (3, .int v3), (4, .int v4), (5, .int v5), (6, .int v6)] [.int s0, .int s1] M := by
    intro v1 v2 v3 v4 v5 v6 s0 s1 M h
    unfold wj_MO_relocation_67 at h
    refine g_icmp_ne X dMO_relocation_67 (fun c => ?_) (fun c => ?_)
    · have h := h.1 c
      refine g_iconst X (v := (-1 : Int32)) dMO_relocation_89 (by decide) ?_
      exact g_iret X hr hlk dMO_relocation_90 ⟨_, rfl, h⟩
    · have h := h.2 c
      refine g_iload_n X dMO_relocation_70 rfl 3 rfl ?_
      refine g_bipush X (v := (43 : Int32)) dMO_relocation_71 (by decide) ?_
      refine g_icmp_ne X dMO_relocation_73 (fun c => ?_) (fun c => ?_)
      · have h := h.1 c
        exact r_85 v1 v2 v3 v4 v5 v6 M h
      · have h := h.2 c
        refine g_iload X dMO_relocation_76 5 rfl ?_
        refine g_i2l X dMO_relocation_78 rfl ?_
        refine g_callS X hK gTs_ok mw_MO_isSkip tw_1116 mt_MO_isSkip (As := [.long (v5.toInt64)]) rfl ⟨(Nat.le_of_ble_eq_true rfl), (Nat.le_of_ble_eq_true rfl), Nat.le_refl _, Nat.le_refl _⟩ (m_MO_isSkip h) (rest := []) rfl (Nat.le_of_ble_eq_true rfl) dMO_relocation_79 (gk_z (fun r12 M13 h => ?_))
        refine g_if_eq X dMO_relocation_82 (fun c => ?_) (fun c => ?_)
        · have h := h.1 c
          refine g_iconst X (v := (-1 : Int32)) dMO_relocation_89 (by decide) ?_
          exact g_iret X hr hlk dMO_relocation_90 ⟨_, rfl, h⟩
        · have h := h.2 c
          exact r_85 v1 v2 v3 v4 v5 v6 M13 h
  refine g_args (L' := [(0, .ref (base + 41)), (1, .int a0), (2, .int a1), (3, .int a2), (4, .int a3), (5, .int a4)]) rfl ?_
  unfold wp_MO_relocation at h
  refine g_aload_n X dMO_relocation_0 rfl 0 rfl ?_
  refine g_getr X hK.1 fw_MO_64 ly_41 rfl dMO_relocation_1 ?_
  refine g_iconst X (v := (0 : Int32)) dMO_relocation_4 (by decide) ?_
  obtain ⟨hi, h⟩ := h
  refine g_iald X hK.1 ly_60 hi dMO_relocation_5 ?_
  refine g_topi (fun x1 ex1 => ?_)
  have h := h x1 ex1
  refine g_istore X (L' := [(6, .int x1), (0, .ref (base + 41)), (1, .int a0), (2, .int a1), (3, .int a2), (4, .int a3), (5, .int a4)]) dMO_relocation_6 (Nat.le_of_ble_eq_true rfl) rfl ?_
  refine g_iload X dMO_relocation_8 0 rfl ?_
  refine g_sipush X (v := (300 : Int32)) dMO_relocation_10 (by decide) ?_
  refine g_icmp_eq X dMO_relocation_13 (fun c => ?_) (fun c => ?_)
  · have h := h.1 c
    refine g_iconst X (v := (-1 : Int32)) dMO_relocation_50 (by decide) ?_
    exact g_iret X hr hlk dMO_relocation_51 ⟨_, rfl, h⟩
  · have h := h.2 c
    refine g_iload_n X dMO_relocation_16 rfl 2 rfl ?_
    refine g_if_lt X dMO_relocation_17 (fun c => ?_) (fun c => ?_)
    · have h := h.1 c
      refine g_iconst X (v := (-1 : Int32)) dMO_relocation_50 (by decide) ?_
      exact g_iret X hr hlk dMO_relocation_51 ⟨_, rfl, h⟩
    · have h := h.2 c
      refine g_iload_n X dMO_relocation_20 rfl 2 rfl ?_
      refine g_iconst X (v := (2 : Int32)) dMO_relocation_21 (by decide) ?_
      refine g_icmp_gt X dMO_relocation_22 (fun c => ?_) (fun c => ?_)
      · have h := h.1 c
        refine g_iconst X (v := (-1 : Int32)) dMO_relocation_50 (by decide) ?_
        exact g_iret X hr hlk dMO_relocation_51 ⟨_, rfl, h⟩
      · have h := h.2 c
        refine g_iload_n X dMO_relocation_25 rfl 4 rfl ?_
        refine g_iload_n X dMO_relocation_26 rfl 2 rfl ?_
        refine g_callS X hK gTs_ok mw_MO_isKindOf tw_1107 mt_MO_isKindOf (As := [.int a2, .int a0]) rfl ⟨(Nat.le_of_ble_eq_true rfl), (Nat.le_of_ble_eq_true rfl), Nat.le_refl _, Nat.le_refl _⟩ (m_MO_isKindOf h) (rest := []) rfl (Nat.le_of_ble_eq_true rfl) dMO_relocation_27 (gk_z (fun r2 M3 h => ?_))
        refine g_if_eq X dMO_relocation_30 (fun c => ?_) (fun c => ?_)
        · have h := h.1 c
          refine g_iconst X (v := (-1 : Int32)) dMO_relocation_50 (by decide) ?_
          exact g_iret X hr hlk dMO_relocation_51 ⟨_, rfl, h⟩
        · have h := h.2 c
          refine g_iload X dMO_relocation_33 5 rfl ?_
          refine g_iconst X (v := (-1 : Int32)) dMO_relocation_35 (by decide) ?_
          refine g_icmp_lt X dMO_relocation_36 (fun c => ?_) (fun c => ?_)
          · have h := h.1 c
            refine g_iconst X (v := (-1 : Int32)) dMO_relocation_50 (by decide) ?_
            exact g_iret X hr hlk dMO_relocation_51 ⟨_, rfl, h⟩
          · have h := h.2 c
            refine g_iload X dMO_relocation_39 5 rfl ?_
            refine g_aload_n X dMO_relocation_41 rfl 1 rfl ?_
            refine g_getr X hK.1 fw_MO_46 ly_41 rfl dMO_relocation_42 ?_
            refine g_iconst X (v := (0 : Int32)) dMO_relocation_45 (by decide) ?_
            obtain ⟨hi, h⟩ := h
            refine g_iald X hK.1 ly_54 hi dMO_relocation_46 ?_
            refine g_icmp_lt X dMO_relocation_47 (fun c => ?_) (fun c => ?_)
            · have h := h.1 c
              refine g_iload_n X dMO_relocation_52 rfl 4 rfl ?_
              refine g_callS X hK gTs_ok mw_MO_isAlone tw_1113 mt_MO_isAlone (As := [.int a2]) rfl ⟨(Nat.le_of_ble_eq_true rfl), (Nat.le_of_ble_eq_true rfl), Nat.le_refl _, Nat.le_refl _⟩ (m_MO_isAlone h) (rest := []) rfl (Nat.le_of_ble_eq_true rfl) dMO_relocation_53 (gk_z (fun r4 M5 h => ?_))
              refine g_iload X dMO_relocation_56 5 rfl ?_
              refine g_iconst X (v := (-1 : Int32)) dMO_relocation_58 (by decide) ?_
              refine g_icmp_ne X dMO_relocation_59 (fun c => ?_) (fun c => ?_)
              · have h := h.1 c
                refine g_iconst X (v := (0 : Int32)) dMO_relocation_66 (by decide) ?_
                refine g_sub (L' := [(0, .ref (base + 41)), (1, .int a0), (2, .int a1), (3, .int a2), (4, .int a3), (5, .int a4), (6, .int x1)]) [1, 2, 3, 4, 5, 6, 0] rfl ?_
                exact r_67 a0 a1 a2 a3 a4 x1 (0 : Int32) (bI r4) M5 h
              · have h := h.2 c
                refine g_iconst X (v := (1 : Int32)) dMO_relocation_62 (by decide) ?_
                refine g_goto X dMO_relocation_63 ?_
                refine g_sub (L' := [(0, .ref (base + 41)), (1, .int a0), (2, .int a1), (3, .int a2), (4, .int a3), (5, .int a4), (6, .int x1)]) [1, 2, 3, 4, 5, 6, 0] rfl ?_
                exact r_67 a0 a1 a2 a3 a4 x1 (1 : Int32) (bI r4) M5 h
            · have h := h.2 c
              refine g_iconst X (v := (-1 : Int32)) dMO_relocation_50 (by decide) ?_
              exact g_iret X hr hlk dMO_relocation_51 ⟨_, rfl, h⟩
set_option maxRecDepth 100000 in
set_option maxHeartbeats 4000000 in
theorem m_MO_widthOf {l : Launch} {D : va_G} {ta : Nat → ClassId} {base : Nat} {sa : Nat → Nat} {post : Int32 → gMem → Prop} {a0 : Int32} {a1 : Int32} {M : gMem} (h : wp_MO_widthOf post a0 a1 M) : GC gLay gCl D ta base gNw sa gTabs gTs l y_MO_widthOf b_MO_widthOf 2 (some .int) 0 0 [.int a0, .int a1] M (gPi post) := by
  refine GC.of (own := "ObjectFileModel") pn_MO rfl (Nat.le_of_ble_eq_true rfl) ?_
  intro p e s m below meth c X hK hr hlk
  refine g_args (L' := [(0, .int a0), (1, .int a1)]) rfl ?_
  unfold wp_MO_widthOf at h
  refine g_iload_n X dMO_widthOf_0 rfl 0 rfl ?_
  refine g_bipush X (v := (43 : Int32)) dMO_widthOf_1 (by decide) ?_
  refine g_icmp_ne X dMO_widthOf_3 (fun c => ?_) (fun c => ?_)
  · have h := h.1 c
    refine g_iload_n X dMO_widthOf_8 rfl 0 rfl ?_
    refine g_bipush X (v := (51 : Int32)) dMO_widthOf_9 (by decide) ?_
    refine g_icmp_ne X dMO_widthOf_11 (fun c => ?_) (fun c => ?_)
    · have h := h.1 c
      refine g_iload_n X dMO_widthOf_16 rfl 0 rfl ?_
      refine g_bipush X (v := (33 : Int32)) dMO_widthOf_17 (by decide) ?_
      refine g_icmp_eq X dMO_widthOf_19 (fun c => ?_) (fun c => ?_)
      · have h := h.1 c
        refine g_iconst X (v := (1 : Int32)) dMO_widthOf_28 (by decide) ?_
        exact g_iret X hr hlk dMO_widthOf_29 ⟨_, rfl, h⟩
      · have h := h.2 c
        refine g_iload_n X dMO_widthOf_22 rfl 0 rfl ?_
        refine g_bipush X (v := (37 : Int32)) dMO_widthOf_23 (by decide) ?_
        refine g_icmp_ne X dMO_widthOf_25 (fun c => ?_) (fun c => ?_)
        · have h := h.1 c
          refine g_iload_n X dMO_widthOf_30 rfl 0 rfl ?_
          refine g_bipush X (v := (34 : Int32)) dMO_widthOf_31 (by decide) ?_
          refine g_icmp_eq X dMO_widthOf_33 (fun c => ?_) (fun c => ?_)
          · have h := h.1 c
            refine g_iconst X (v := (2 : Int32)) dMO_widthOf_54 (by decide) ?_
            refine g_goto X dMO_widthOf_55 ?_
            exact g_iret X hr hlk dMO_widthOf_70 ⟨_, rfl, h⟩
          · have h := h.2 c
            refine g_iload_n X dMO_widthOf_36 rfl 0 rfl ?_
            refine g_bipush X (v := (38 : Int32)) dMO_widthOf_37 (by decide) ?_
            refine g_icmp_eq X dMO_widthOf_39 (fun c => ?_) (fun c => ?_)
            · have h := h.1 c
              refine g_iconst X (v := (2 : Int32)) dMO_widthOf_54 (by decide) ?_
              refine g_goto X dMO_widthOf_55 ?_
              exact g_iret X hr hlk dMO_widthOf_70 ⟨_, rfl, h⟩
            · have h := h.2 c
              refine g_iload_n X dMO_widthOf_42 rfl 0 rfl ?_
              refine g_bipush X (v := (44 : Int32)) dMO_widthOf_43 (by decide) ?_
              refine g_icmp_eq X dMO_widthOf_45 (fun c => ?_) (fun c => ?_)
              · have h := h.1 c
                refine g_iconst X (v := (2 : Int32)) dMO_widthOf_54 (by decide) ?_
                refine g_goto X dMO_widthOf_55 ?_
                exact g_iret X hr hlk dMO_widthOf_70 ⟨_, rfl, h⟩
              · have h := h.2 c
                refine g_iload_n X dMO_widthOf_48 rfl 0 rfl ?_
                refine g_bipush X (v := (45 : Int32)) dMO_widthOf_49 (by decide) ?_
                refine g_icmp_ne X dMO_widthOf_51 (fun c => ?_) (fun c => ?_)
                · have h := h.1 c
                  refine g_iload_n X dMO_widthOf_58 rfl 0 rfl ?_
                  refine g_bipush X (v := (19 : Int32)) dMO_widthOf_59 (by decide) ?_
                  refine g_icmp_ne X dMO_widthOf_61 (fun c => ?_) (fun c => ?_)
                  · have h := h.1 c
                    refine g_iconst X (v := (4 : Int32)) dMO_widthOf_69 (by decide) ?_
                    exact g_iret X hr hlk dMO_widthOf_70 ⟨_, rfl, h⟩
                  · have h := h.2 c
                    refine g_bipush X (v := (8 : Int32)) dMO_widthOf_64 (by decide) ?_
                    refine g_goto X dMO_widthOf_66 ?_
                    exact g_iret X hr hlk dMO_widthOf_70 ⟨_, rfl, h⟩
                · have h := h.2 c
                  refine g_iconst X (v := (2 : Int32)) dMO_widthOf_54 (by decide) ?_
                  refine g_goto X dMO_widthOf_55 ?_
                  exact g_iret X hr hlk dMO_widthOf_70 ⟨_, rfl, h⟩
        · have h := h.2 c
          refine g_iconst X (v := (1 : Int32)) dMO_widthOf_28 (by decide) ?_
          exact g_iret X hr hlk dMO_widthOf_29 ⟨_, rfl, h⟩
    · have h := h.2 c
      refine g_iconst X (v := (0 : Int32)) dMO_widthOf_14 (by decide) ?_
      exact g_iret X hr hlk dMO_widthOf_15 ⟨_, rfl, h⟩
  · have h := h.2 c
    refine g_iload_n X dMO_widthOf_6 rfl 1 rfl ?_
    exact g_iret X hr hlk dMO_widthOf_7 ⟨_, rfl, h⟩
set_option maxRecDepth 100000 in
set_option maxHeartbeats 4000000 in
theorem m_MO_unfit {l : Launch} {D : va_G} {ta : Nat → ClassId} {base : Nat} {sa : Nat → Nat} {post : Int32 → gMem → Prop} {M : gMem} (h : wp_MO_unfit post M) : GC gLay gCl D ta base gNw sa gTabs gTs l y_MO_unfit b_MO_unfit 2 (some .int) 1 21 [.ref (base + 41)] M (gPi post) := by
  refine GC.of (own := "ObjectFileModel") pn_MO rfl (Nat.le_of_ble_eq_true rfl) ?_
  intro p e s m below meth c X hK hr hlk
  have r_108 : ∀ (n : Nat) (v1 : Int32) (M : gMem), wl_MO_unfit_108 post n v1 M → GMx D ta base p l e 1 21 s m [.ref (base + 41)] below meth c (gPi post) 2 108 [(0, .ref (base + 41)), (1, .int v1)] [] M := by
    intro n
    induction n with
    | zero => exact fun _ M h => h.elim
    | succ n ih =>
      intro v1 M h
      refine g_iload_n X dMO_unfit_108 rfl 1 rfl ?_
      refine g_aload_n X dMO_unfit_109 rfl 0 rfl ?_
      refine g_getr X hK.1 fw_MO_64 ly_41 rfl dMO_unfit_110 ?_
      refine g_iconst X (v := (0 : Int32)) dMO_unfit_113 (by decide) ?_
      obtain ⟨hi, h⟩ := h
      refine g_iald X hK.1 ly_60 hi dMO_unfit_114 ?_
      refine g_icmp_ge X dMO_unfit_115 (fun c => ?_) (fun c => ?_)
      · have h := h.1 c
        refine g_iconst X (v := (0 : Int32)) dMO_unfit_167 (by decide) ?_
        exact g_iret X hr hlk dMO_unfit_168 ⟨_, rfl, h⟩
      · have h := h.2 c
        refine g_aload_n X dMO_unfit_118 rfl 0 rfl ?_
        refine g_getr X hK.1 fw_MO_52 ly_41 rfl dMO_unfit_119 ?_
        refine g_iload_n X dMO_unfit_122 rfl 1 rfl ?_
        obtain ⟨hi, h⟩ := h
        refine g_iald X hK.1 ly_56 hi dMO_unfit_123 ?_
        refine g_i2l X dMO_unfit_124 rfl ?_
        refine g_aload_n X dMO_unfit_125 rfl 0 rfl ?_
        refine g_getr X hK.1 fw_MO_55 ly_41 rfl dMO_unfit_126 ?_
        refine g_iload_n X dMO_unfit_129 rfl 1 rfl ?_
        obtain ⟨hi, h⟩ := h
        refine g_iald X hK.1 ly_57 hi dMO_unfit_130 ?_
        refine g_aload_n X dMO_unfit_131 rfl 0 rfl ?_
        refine g_getr X hK.1 fw_MO_61 ly_41 rfl dMO_unfit_132 ?_
        refine g_iload_n X dMO_unfit_135 rfl 1 rfl ?_
        obtain ⟨hi, h⟩ := h
        refine g_iald X hK.1 ly_59 hi dMO_unfit_136 ?_
        refine g_callS X hK gTs_ok mw_MO_widthOf tw_1129 mt_MO_widthOf (As := [.int (M 57 (v1).toNatClampNeg), .int (M 59 (v1).toNatClampNeg)]) rfl ⟨(Nat.le_of_ble_eq_true rfl), (Nat.le_of_ble_eq_true rfl), Nat.le_refl _, Nat.le_refl _⟩ (m_MO_widthOf h) (rest := [.long ((M 56 (v1).toNatClampNeg).toInt64)]) rfl (Nat.le_of_ble_eq_true rfl) dMO_unfit_137 (gk_i (fun r1 M2 h => ?_))
        refine g_i2l X dMO_unfit_140 rfl ?_
        refine g_ladd X dMO_unfit_141 ?_
        refine g_aload_n X dMO_unfit_142 rfl 0 rfl ?_
        refine g_getr X hK.1 fw_MO_13 ly_41 rfl dMO_unfit_143 ?_
        refine g_aload_n X dMO_unfit_146 rfl 0 rfl ?_
        refine g_getr X hK.1 fw_MO_49 ly_41 rfl dMO_unfit_147 ?_
        refine g_iload_n X dMO_unfit_150 rfl 1 rfl ?_
        obtain ⟨hi, h⟩ := h
        refine g_iald X hK.1 ly_55 hi dMO_unfit_151 ?_
        obtain ⟨hi, h⟩ := h
        refine g_iald X hK.1 ly_43 hi dMO_unfit_152 ?_
        refine g_i2l X dMO_unfit_153 rfl ?_
        refine g_lif_le X dMO_unfit_154 dMO_unfit_155 (fun c => ?_) (fun c => ?_)
        · have h := h.1 c
          obtain ⟨x3, ex3⟩ : ∃ z : Int32, z = v1 + (1 : Int32) := ⟨_, rfl⟩
          have h := h x3 ex3
          refine g_iinc X (L' := [(1, .int x3), (0, .ref (base + 41))]) (k := 1) dMO_unfit_161 rfl (v := x3) (by rw [ex3]; rfl) (Nat.le_of_ble_eq_true rfl) rfl ?_
          refine g_goto X dMO_unfit_164 ?_
          refine g_sub (L' := [(0, .ref (base + 41)), (1, .int x3)]) [1, 0] rfl ?_
          exact ih x3 M2 h
        · have h := h.2 c
          refine g_bipush X (v := (-3 : Int32)) dMO_unfit_158 (by decide) ?_
          exact g_iret X hr hlk dMO_unfit_160 ⟨_, rfl, h⟩
  have r_37 : ∀ (n : Nat) (v1 : Int32) (M : gMem), wl_MO_unfit_37 post n v1 M → GMx D ta base p l e 1 21 s m [.ref (base + 41)] below meth c (gPi post) 2 37 [(0, .ref (base + 41)), (1, .int v1)] [] M := by
    intro n
    induction n with
    | zero => exact fun _ M h => h.elim
    | succ n ih =>
      intro v1 M h
      refine g_iload_n X dMO_unfit_37 rfl 1 rfl ?_
      refine g_aload_n X dMO_unfit_38 rfl 0 rfl ?_
      refine g_getr X hK.1 fw_MO_46 ly_41 rfl dMO_unfit_39 ?_
      refine g_iconst X (v := (0 : Int32)) dMO_unfit_42 (by decide) ?_
      obtain ⟨hi, h⟩ := h
      refine g_iald X hK.1 ly_54 hi dMO_unfit_43 ?_
      refine g_icmp_ge X dMO_unfit_44 (fun c => ?_) (fun c => ?_)
      · have h := h.1 c
        refine g_iconst X (v := (0 : Int32)) dMO_unfit_106 (by decide) ?_
        refine g_istore_n X (L' := [(1, .int (0 : Int32)), (0, .ref (base + 41))]) dMO_unfit_107 rfl (Nat.le_of_ble_eq_true rfl) rfl ?_
        refine g_sub (L' := [(0, .ref (base + 41)), (1, .int (0 : Int32))]) [1, 0] rfl ?_
        obtain ⟨n9, h⟩ := h
        exact r_108 n9 (0 : Int32) M h
      · have h := h.2 c
        refine g_aload_n X dMO_unfit_47 rfl 0 rfl ?_
        refine g_getr X hK.1 fw_MO_25 ly_41 rfl dMO_unfit_48 ?_
        refine g_iload_n X dMO_unfit_51 rfl 1 rfl ?_
        obtain ⟨hi, h⟩ := h
        refine g_iald X hK.1 ly_47 hi dMO_unfit_52 ?_
        refine g_if_lt X dMO_unfit_53 (fun c => ?_) (fun c => ?_)
        · have h := h.1 c
          obtain ⟨x4, ex4⟩ : ∃ z : Int32, z = v1 + (1 : Int32) := ⟨_, rfl⟩
          have h := h x4 ex4
          refine g_iinc X (L' := [(1, .int x4), (0, .ref (base + 41))]) (k := 1) dMO_unfit_100 rfl (v := x4) (by rw [ex4]; rfl) (Nat.le_of_ble_eq_true rfl) rfl ?_
          refine g_goto X dMO_unfit_103 ?_
          refine g_sub (L' := [(0, .ref (base + 41)), (1, .int x4)]) [1, 0] rfl ?_
          exact ih x4 M h
        · have h := h.2 c
          refine g_aload_n X dMO_unfit_56 rfl 0 rfl ?_
          refine g_getr X hK.1 fw_MO_25 ly_41 rfl dMO_unfit_57 ?_
          refine g_iload_n X dMO_unfit_60 rfl 1 rfl ?_
          obtain ⟨hi, h⟩ := h
          refine g_iald X hK.1 ly_47 hi dMO_unfit_61 ?_
          refine g_iconst X (v := (4 : Int32)) dMO_unfit_62 (by decide) ?_
          refine g_icmp_ge X dMO_unfit_63 (fun c => ?_) (fun c => ?_)
          · have h := h.1 c
            obtain ⟨x5, ex5⟩ : ∃ z : Int32, z = v1 + (1 : Int32) := ⟨_, rfl⟩
            have h := h x5 ex5
            refine g_iinc X (L' := [(1, .int x5), (0, .ref (base + 41))]) (k := 1) dMO_unfit_100 rfl (v := x5) (by rw [ex5]; rfl) (Nat.le_of_ble_eq_true rfl) rfl ?_
            refine g_goto X dMO_unfit_103 ?_
            refine g_sub (L' := [(0, .ref (base + 41)), (1, .int x5)]) [1, 0] rfl ?_
            exact ih x5 M h
          · have h := h.2 c
            refine g_aload_n X dMO_unfit_66 rfl 0 rfl ?_
            refine g_getr X hK.1 fw_MO_28 ly_41 rfl dMO_unfit_67 ?_
            refine g_iload_n X dMO_unfit_70 rfl 1 rfl ?_
            obtain ⟨hi, h⟩ := h
            refine g_iald X hK.1 ly_48 hi dMO_unfit_71 ?_
            refine g_i2l X dMO_unfit_72 rfl ?_
            refine g_aload_n X dMO_unfit_73 rfl 0 rfl ?_
            refine g_getr X hK.1 fw_MO_31 ly_41 rfl dMO_unfit_74 ?_
            refine g_iload_n X dMO_unfit_77 rfl 1 rfl ?_
            obtain ⟨hi, h⟩ := h
            refine g_iald X hK.1 ly_49 hi dMO_unfit_78 ?_
            refine g_i2l X dMO_unfit_79 rfl ?_
            refine g_ladd X dMO_unfit_80 ?_
            refine g_aload_n X dMO_unfit_81 rfl 0 rfl ?_
            refine g_getr X hK.1 fw_MO_13 ly_41 rfl dMO_unfit_82 ?_
            refine g_aload_n X dMO_unfit_85 rfl 0 rfl ?_
            refine g_getr X hK.1 fw_MO_25 ly_41 rfl dMO_unfit_86 ?_
            refine g_iload_n X dMO_unfit_89 rfl 1 rfl ?_
            obtain ⟨hi, h⟩ := h
            refine g_iald X hK.1 ly_47 hi dMO_unfit_90 ?_
            obtain ⟨hi, h⟩ := h
            refine g_iald X hK.1 ly_43 hi dMO_unfit_91 ?_
            refine g_i2l X dMO_unfit_92 rfl ?_
            refine g_lif_le X dMO_unfit_93 dMO_unfit_94 (fun c => ?_) (fun c => ?_)
            · have h := h.1 c
              obtain ⟨x6, ex6⟩ : ∃ z : Int32, z = v1 + (1 : Int32) := ⟨_, rfl⟩
              have h := h x6 ex6
              refine g_iinc X (L' := [(1, .int x6), (0, .ref (base + 41))]) (k := 1) dMO_unfit_100 rfl (v := x6) (by rw [ex6]; rfl) (Nat.le_of_ble_eq_true rfl) rfl ?_
              refine g_goto X dMO_unfit_103 ?_
              refine g_sub (L' := [(0, .ref (base + 41)), (1, .int x6)]) [1, 0] rfl ?_
              exact ih x6 M h
            · have h := h.2 c
              refine g_bipush X (v := (-2 : Int32)) dMO_unfit_97 (by decide) ?_
              exact g_iret X hr hlk dMO_unfit_99 ⟨_, rfl, h⟩
  have r_2 : ∀ (n : Nat) (v1 : Int32) (M : gMem), wl_MO_unfit_2 post n v1 M → GMx D ta base p l e 1 21 s m [.ref (base + 41)] below meth c (gPi post) 2 2 [(0, .ref (base + 41)), (1, .int v1)] [] M := by
    intro n
    induction n with
    | zero => exact fun _ M h => h.elim
    | succ n ih =>
      intro v1 M h
      refine g_iload_n X dMO_unfit_2 rfl 1 rfl ?_
      refine g_aload_n X dMO_unfit_3 rfl 0 rfl ?_
      refine g_getr X hK.1 fw_MO_22 ly_41 rfl dMO_unfit_4 ?_
      refine g_iconst X (v := (0 : Int32)) dMO_unfit_7 (by decide) ?_
      obtain ⟨hi, h⟩ := h
      refine g_iald X hK.1 ly_46 hi dMO_unfit_8 ?_
      refine g_icmp_ge X dMO_unfit_9 (fun c => ?_) (fun c => ?_)
      · have h := h.1 c
        refine g_iconst X (v := (0 : Int32)) dMO_unfit_35 (by decide) ?_
        refine g_istore_n X (L' := [(1, .int (0 : Int32)), (0, .ref (base + 41))]) dMO_unfit_36 rfl (Nat.le_of_ble_eq_true rfl) rfl ?_
        refine g_sub (L' := [(0, .ref (base + 41)), (1, .int (0 : Int32))]) [1, 0] rfl ?_
        obtain ⟨n9, h⟩ := h
        exact r_37 n9 (0 : Int32) M h
      · have h := h.2 c
        refine g_aload_n X dMO_unfit_12 rfl 0 rfl ?_
        refine g_getr X hK.1 fw_MO_19 ly_41 rfl dMO_unfit_13 ?_
        refine g_iload_n X dMO_unfit_16 rfl 1 rfl ?_
        obtain ⟨hi, h⟩ := h
        refine g_iald X hK.1 ly_45 hi dMO_unfit_17 ?_
        refine g_aload_n X dMO_unfit_18 rfl 0 rfl ?_
        refine g_getr X hK.1 fw_MO_13 ly_41 rfl dMO_unfit_19 ?_
        refine g_iconst X (v := (0 : Int32)) dMO_unfit_22 (by decide) ?_
        obtain ⟨hi, h⟩ := h
        refine g_iald X hK.1 ly_43 hi dMO_unfit_23 ?_
        refine g_icmp_lt X dMO_unfit_24 (fun c => ?_) (fun c => ?_)
        · have h := h.1 c
          obtain ⟨x7, ex7⟩ : ∃ z : Int32, z = v1 + (1 : Int32) := ⟨_, rfl⟩
          have h := h x7 ex7
          refine g_iinc X (L' := [(1, .int x7), (0, .ref (base + 41))]) (k := 1) dMO_unfit_29 rfl (v := x7) (by rw [ex7]; rfl) (Nat.le_of_ble_eq_true rfl) rfl ?_
          refine g_goto X dMO_unfit_32 ?_
          refine g_sub (L' := [(0, .ref (base + 41)), (1, .int x7)]) [1, 0] rfl ?_
          exact ih x7 M h
        · have h := h.2 c
          refine g_iconst X (v := (-1 : Int32)) dMO_unfit_27 (by decide) ?_
          exact g_iret X hr hlk dMO_unfit_28 ⟨_, rfl, h⟩
  refine g_args (L' := [(0, .ref (base + 41))]) rfl ?_
  unfold wp_MO_unfit at h
  refine g_iconst X (v := (0 : Int32)) dMO_unfit_0 (by decide) ?_
  refine g_istore_n X (L' := [(1, .int (0 : Int32)), (0, .ref (base + 41))]) dMO_unfit_1 rfl (Nat.le_of_ble_eq_true rfl) rfl ?_
  refine g_sub (L' := [(0, .ref (base + 41)), (1, .int (0 : Int32))]) [1, 0] rfl ?_
  obtain ⟨n9, h⟩ := h
  exact r_2 n9 (0 : Int32) M h
set_option maxRecDepth 100000 in
set_option maxHeartbeats 4000000 in
theorem m_MO_order {l : Launch} {D : va_G} {ta : Nat → ClassId} {base : Nat} {sa : Nat → Nat} {post : Int32 → gMem → Prop} {M : gMem} (h : wp_MO_order post M) : GC gLay gCl D ta base gNw sa gTabs gTs l y_MO_order b_MO_order 5 (some .int) 0 0 [.ref (base + 41)] M (gPi post) := by
  refine GC.of (own := "ObjectFileModel") pn_MO rfl (Nat.le_of_ble_eq_true rfl) ?_
  intro p e s m below meth c X hK hr hlk
  have r_49 : ∀ (k6 : Int32 → Int32 → Int32 → gMem → Prop) (hk6 : ∀ (v1 : Int32) (v2 : Int32) (v3 : Int32) (M : gMem), k6 v1 v2 v3 M → GMx D ta base p l e 0 0 s m [.ref (base + 41)] below meth c (gPi post) 5 6 [(0, .ref (base + 41)), (1, .int v1), (2, .int v2), (3, .int v3)] [] M) (k14 : Int32 → Int32 → Int32 → Int32 → gMem → Prop) (hk14 : ∀ (v1 : Int32) (v2 : Int32) (v3 : Int32) (v4 : Int32) (M : gMem), k14 v1 v2 v3 v4 M → GMx D ta base p l e 0 0 s m [.ref (base + 41)] below meth c (gPi post) 5 14 [(0, .ref (base + 41)), (1, .int v1), (2, .int v2), (3, .int v3), (4, .int v4)] [] M) (v1 : Int32) (v2 : Int32) (v3 : Int32) (v4 : Int32) (s0 : Int32) (s1 : Int32) (M : gMem), wj_MO_order_49 post k6 k14 v1 v2 v3 v4 s0 s1 M → GMx D ta base p l e 0 0 s m [.ref (base + 41)] below meth c (gPi post) 5 49 [(0, .ref (base + 41)), (1, .int v1), (2, .int v2), (3, .int v3), (4, .int v4)] [.int s0, .int s1] M := by
    intro k6 hk6 k14 hk14 v1 v2 v3 v4 s0 s1 M h
    unfold wj_MO_order_49 at h
    refine g_icmp_eq X dMO_order_49 (fun c => ?_) (fun c => ?_)
    · have h := h.1 c
      refine g_aload_n X dMO_order_55 rfl 0 rfl ?_
      refine g_getr X hK.1 fw_MO_101 ly_41 rfl dMO_order_56 ?_
      refine g_iload X dMO_order_59 4 rfl ?_
      refine g_iload_n X dMO_order_61 rfl 1 rfl ?_
      obtain ⟨hi, h⟩ := h
      refine g_iast X hK.1 ly_71 hi dMO_order_62 ?_
      refine g_topM (fun M3 eM3 => ?_)
      have h := h M3 eM3
      obtain ⟨x4, ex4⟩ : ∃ z : Int32, z = v1 + (1 : Int32) := ⟨_, rfl⟩
      have h := h x4 ex4
      refine g_iinc X (L' := [(1, .int x4), (0, .ref (base + 41)), (2, .int v2), (3, .int v3), (4, .int v4)]) (k := 1) dMO_order_63 rfl (v := x4) (by rw [ex4]; rfl) (Nat.le_of_ble_eq_true rfl) rfl ?_
      obtain ⟨x5, ex5⟩ : ∃ z : Int32, z = v4 + (1 : Int32) := ⟨_, rfl⟩
      have h := h x5 ex5
      refine g_iinc X (L' := [(4, .int x5), (1, .int x4), (0, .ref (base + 41)), (2, .int v2), (3, .int v3)]) (k := 4) dMO_order_66 rfl (v := x5) (by rw [ex5]; rfl) (Nat.le_of_ble_eq_true rfl) rfl ?_
      refine g_goto X dMO_order_69 ?_
      refine g_sub (L' := [(0, .ref (base + 41)), (1, .int x4), (2, .int v2), (3, .int v3), (4, .int x5)]) [2, 1, 3, 4, 0] rfl ?_
      exact hk14 x4 v2 v3 x5 M3 h
    · have h := h.2 c
      refine g_goto X dMO_order_52 ?_
      obtain ⟨x6, ex6⟩ : ∃ z : Int32, z = v4 + (1 : Int32) := ⟨_, rfl⟩
      have h := h x6 ex6
      refine g_iinc X (L' := [(4, .int x6), (0, .ref (base + 41)), (1, .int v1), (2, .int v2), (3, .int v3)]) (k := 4) dMO_order_66 rfl (v := x6) (by rw [ex6]; rfl) (Nat.le_of_ble_eq_true rfl) rfl ?_
      refine g_goto X dMO_order_69 ?_
      refine g_sub (L' := [(0, .ref (base + 41)), (1, .int v1), (2, .int v2), (3, .int v3), (4, .int x6)]) [1, 2, 3, 4, 0] rfl ?_
      exact hk14 v1 v2 v3 x6 M h
  have r_40 : ∀ (k6 : Int32 → Int32 → Int32 → gMem → Prop) (hk6 : ∀ (v1 : Int32) (v2 : Int32) (v3 : Int32) (M : gMem), k6 v1 v2 v3 M → GMx D ta base p l e 0 0 s m [.ref (base + 41)] below meth c (gPi post) 5 6 [(0, .ref (base + 41)), (1, .int v1), (2, .int v2), (3, .int v3)] [] M) (k14 : Int32 → Int32 → Int32 → Int32 → gMem → Prop) (hk14 : ∀ (v1 : Int32) (v2 : Int32) (v3 : Int32) (v4 : Int32) (M : gMem), k14 v1 v2 v3 v4 M → GMx D ta base p l e 0 0 s m [.ref (base + 41)] below meth c (gPi post) 5 14 [(0, .ref (base + 41)), (1, .int v1), (2, .int v2), (3, .int v3), (4, .int v4)] [] M) (v1 : Int32) (v2 : Int32) (v3 : Int32) (v4 : Int32) (s0 : Int32) (M : gMem), wj_MO_order_40 post k6 k14 v1 v2 v3 v4 s0 M → GMx D ta base p l e 0 0 s m [.ref (base + 41)] below meth c (gPi post) 5 40 [(0, .ref (base + 41)), (1, .int v1), (2, .int v2), (3, .int v3), (4, .int v4)] [.int s0] M := by
    intro k6 hk6 k14 hk14 v1 v2 v3 v4 s0 M h
    unfold wj_MO_order_40 at h
    refine g_iload_n X dMO_order_40 rfl 3 rfl ?_
    refine g_if_ne X dMO_order_41 (fun c => ?_) (fun c => ?_)
    · have h := h.1 c
      refine g_iconst X (v := (0 : Int32)) dMO_order_48 (by decide) ?_
      exact r_49 _ hk6 _ hk14 v1 v2 v3 v4 (0 : Int32) s0 M h
    · have h := h.2 c
      refine g_iconst X (v := (1 : Int32)) dMO_order_44 (by decide) ?_
      refine g_goto X dMO_order_45 ?_
      exact r_49 _ hk6 _ hk14 v1 v2 v3 v4 (1 : Int32) s0 M h
  have r_14 : ∀ (k6 : Int32 → Int32 → Int32 → gMem → Prop) (hk6 : ∀ (v1 : Int32) (v2 : Int32) (v3 : Int32) (M : gMem), k6 v1 v2 v3 M → GMx D ta base p l e 0 0 s m [.ref (base + 41)] below meth c (gPi post) 5 6 [(0, .ref (base + 41)), (1, .int v1), (2, .int v2), (3, .int v3)] [] M) (n : Nat) (v1 : Int32) (v2 : Int32) (v3 : Int32) (v4 : Int32) (M : gMem), wl_MO_order_14 post k6 n v1 v2 v3 v4 M → GMx D ta base p l e 0 0 s m [.ref (base + 41)] below meth c (gPi post) 5 14 [(0, .ref (base + 41)), (1, .int v1), (2, .int v2), (3, .int v3), (4, .int v4)] [] M := by
    intro k6 hk6 n
    induction n with
    | zero => exact fun _ _ _ _ M h => h.elim
    | succ n ih =>
      intro v1 v2 v3 v4 M h
      refine g_iload X dMO_order_14 4 rfl ?_
      refine g_aload_n X dMO_order_16 rfl 0 rfl ?_
      refine g_getr X hK.1 fw_MO_46 ly_41 rfl dMO_order_17 ?_
      refine g_iconst X (v := (0 : Int32)) dMO_order_20 (by decide) ?_
      obtain ⟨hi, h⟩ := h
      refine g_iald X hK.1 ly_54 hi dMO_order_21 ?_
      refine g_icmp_ge X dMO_order_22 (fun c => ?_) (fun c => ?_)
      · have h := h.1 c
        refine g_iload_n X dMO_order_72 rfl 3 rfl ?_
        refine g_if_ne X dMO_order_73 (fun c => ?_) (fun c => ?_)
        · have h := h.1 c
          refine g_iload_n X dMO_order_80 rfl 2 rfl ?_
          refine g_istore_n X (L' := [(2, .int v2), (0, .ref (base + 41)), (1, .int v1), (3, .int v3), (4, .int v4)]) dMO_order_81 rfl (Nat.le_of_ble_eq_true rfl) rfl ?_
          obtain ⟨x1, ex1⟩ : ∃ z : Int32, z = v3 + (1 : Int32) := ⟨_, rfl⟩
          have h := h x1 ex1
          refine g_iinc X (L' := [(3, .int x1), (2, .int v2), (0, .ref (base + 41)), (1, .int v1), (4, .int v4)]) (k := 3) dMO_order_82 rfl (v := x1) (by rw [ex1]; rfl) (Nat.le_of_ble_eq_true rfl) rfl ?_
          refine g_goto X dMO_order_85 ?_
          refine g_sub (L' := [(0, .ref (base + 41)), (1, .int v1), (2, .int v2), (3, .int x1)]) [2, 3, 1, 0] rfl ?_
          exact hk6 v1 v2 x1 M h
        · have h := h.2 c
          refine g_iload_n X dMO_order_76 rfl 1 rfl ?_
          refine g_goto X dMO_order_77 ?_
          refine g_istore_n X (L' := [(2, .int v1), (0, .ref (base + 41)), (1, .int v1), (3, .int v3), (4, .int v4)]) dMO_order_81 rfl (Nat.le_of_ble_eq_true rfl) rfl ?_
          obtain ⟨x2, ex2⟩ : ∃ z : Int32, z = v3 + (1 : Int32) := ⟨_, rfl⟩
          have h := h x2 ex2
          refine g_iinc X (L' := [(3, .int x2), (2, .int v1), (0, .ref (base + 41)), (1, .int v1), (4, .int v4)]) (k := 3) dMO_order_82 rfl (v := x2) (by rw [ex2]; rfl) (Nat.le_of_ble_eq_true rfl) rfl ?_
          refine g_goto X dMO_order_85 ?_
          refine g_sub (L' := [(0, .ref (base + 41)), (1, .int v1), (2, .int v1), (3, .int x2)]) [2, 3, 1, 0] rfl ?_
          exact hk6 v1 v1 x2 M h
      · have h := h.2 c
        refine g_aload_n X dMO_order_25 rfl 0 rfl ?_
        refine g_getr X hK.1 fw_MO_34 ly_41 rfl dMO_order_26 ?_
        refine g_iload X dMO_order_29 4 rfl ?_
        obtain ⟨hi, h⟩ := h
        refine g_iald X hK.1 ly_50 hi dMO_order_31 ?_
        refine g_if_ne X dMO_order_32 (fun c => ?_) (fun c => ?_)
        · have h := h.1 c
          refine g_iconst X (v := (0 : Int32)) dMO_order_39 (by decide) ?_
          exact r_40 _ hk6 _ (ih) v1 v2 v3 v4 (0 : Int32) M h
        · have h := h.2 c
          refine g_iconst X (v := (1 : Int32)) dMO_order_35 (by decide) ?_
          refine g_goto X dMO_order_36 ?_
          exact r_40 _ hk6 _ (ih) v1 v2 v3 v4 (1 : Int32) M h
  have r_6 : ∀ (n : Nat) (v1 : Int32) (v2 : Int32) (v3 : Int32) (M : gMem), wl_MO_order_6 post n v1 v2 v3 M → GMx D ta base p l e 0 0 s m [.ref (base + 41)] below meth c (gPi post) 5 6 [(0, .ref (base + 41)), (1, .int v1), (2, .int v2), (3, .int v3)] [] M := by
    intro n
    induction n with
    | zero => exact fun _ _ _ M h => h.elim
    | succ n ih =>
      intro v1 v2 v3 M h
      refine g_iload_n X dMO_order_6 rfl 3 rfl ?_
      refine g_iconst X (v := (2 : Int32)) dMO_order_7 (by decide) ?_
      refine g_icmp_ge X dMO_order_8 (fun c => ?_) (fun c => ?_)
      · have h := h.1 c
        refine g_iload_n X dMO_order_88 rfl 2 rfl ?_
        exact g_iret X hr hlk dMO_order_89 ⟨_, rfl, h⟩
      · have h := h.2 c
        refine g_iconst X (v := (0 : Int32)) dMO_order_11 (by decide) ?_
        refine g_istore X (L' := [(4, .int (0 : Int32)), (0, .ref (base + 41)), (1, .int v1), (2, .int v2), (3, .int v3)]) dMO_order_12 (Nat.le_of_ble_eq_true rfl) rfl ?_
        refine g_sub (L' := [(0, .ref (base + 41)), (1, .int v1), (2, .int v2), (3, .int v3), (4, .int (0 : Int32))]) [1, 2, 3, 4, 0] rfl ?_
        obtain ⟨n9, h⟩ := h
        exact r_14 _ (ih) n9 v1 v2 v3 (0 : Int32) M h
  refine g_args (L' := [(0, .ref (base + 41))]) rfl ?_
  unfold wp_MO_order at h
  refine g_iconst X (v := (0 : Int32)) dMO_order_0 (by decide) ?_
  refine g_istore_n X (L' := [(1, .int (0 : Int32)), (0, .ref (base + 41))]) dMO_order_1 rfl (Nat.le_of_ble_eq_true rfl) rfl ?_
  refine g_iconst X (v := (0 : Int32)) dMO_order_2 (by decide) ?_
  refine g_istore_n X (L' := [(2, .int (0 : Int32)), (1, .int (0 : Int32)), (0, .ref (base + 41))]) dMO_order_3 rfl (Nat.le_of_ble_eq_true rfl) rfl ?_
  refine g_iconst X (v := (0 : Int32)) dMO_order_4 (by decide) ?_
  refine g_istore_n X (L' := [(3, .int (0 : Int32)), (2, .int (0 : Int32)), (1, .int (0 : Int32)), (0, .ref (base + 41))]) dMO_order_5 rfl (Nat.le_of_ble_eq_true rfl) rfl ?_
  refine g_sub (L' := [(0, .ref (base + 41)), (1, .int (0 : Int32)), (2, .int (0 : Int32)), (3, .int (0 : Int32))]) [3, 2, 1, 0] rfl ?_
  obtain ⟨n9, h⟩ := h
  exact r_6 n9 (0 : Int32) (0 : Int32) (0 : Int32) M h
set_option maxRecDepth 100000 in
set_option maxHeartbeats 4000000 in
theorem m_MO_begin {l : Launch} {D : va_G} {ta : Nat → ClassId} {base : Nat} {sa : Nat → Nat} {post : gMem → Prop} {M : gMem} (h : wp_MO_begin post M) : GC gLay gCl D ta base gNw sa gTabs gTs l y_MO_begin b_MO_begin 1 none 0 0 [.ref (base + 41)] M (gPv post) := by
  refine GC.of (own := "ObjectFileModel") pn_MO rfl (Nat.le_of_ble_eq_true rfl) ?_
  intro p e s m below meth c X hK hr hlk
  refine g_args (L' := [(0, .ref (base + 41))]) rfl ?_
  unfold wp_MO_begin at h
  refine g_aload_n X dMO_begin_0 rfl 0 rfl ?_
  refine g_getr X hK.1 fw_MO_95 ly_41 rfl dMO_begin_1 ?_
  refine g_iconst X (v := (0 : Int32)) dMO_begin_4 (by decide) ?_
  refine g_iconst X (v := (0 : Int32)) dMO_begin_5 (by decide) ?_
  obtain ⟨hi, h⟩ := h
  refine g_iast X hK.1 ly_69 hi dMO_begin_6 ?_
  refine g_topM (fun M1 eM1 => ?_)
  have h := h M1 eM1
  refine g_aload_n X dMO_begin_7 rfl 0 rfl ?_
  refine g_getr X hK.1 fw_MO_92 ly_41 rfl dMO_begin_8 ?_
  refine g_iconst X (v := (0 : Int32)) dMO_begin_11 (by decide) ?_
  refine g_iconst X (v := (0 : Int32)) dMO_begin_12 (by decide) ?_
  obtain ⟨hi, h⟩ := h
  refine g_iast X hK.1 ly_68 hi dMO_begin_13 ?_
  refine g_topM (fun M2 eM2 => ?_)
  have h := h M2 eM2
  refine g_aload_n X dMO_begin_14 rfl 0 rfl ?_
  refine g_iconst X (v := (1 : Int32)) dMO_begin_15 (by decide) ?_
  refine g_puti X hK.1 fw_MO_162 pw_MO_30 ly_41 rfl dMO_begin_16 ?_
  refine g_topM (fun M3 eM3 => ?_)
  have h := h M3 eM3
  exact g_vret X hr hlk dMO_begin_19 ⟨rfl, h⟩
set_option maxRecDepth 100000 in
set_option maxHeartbeats 4000000 in
theorem m_MO_stringFor {l : Launch} {D : va_G} {ta : Nat → ClassId} {base : Nat} {sa : Nat → Nat} {post : Int32 → gMem → Prop} {M : gMem} (h : wp_MO_stringFor post M) : GC gLay gCl D ta base gNw sa gTabs gTs l y_MO_stringFor b_MO_stringFor 4 (some .int) 0 0 [.ref (base + 41)] M (gPi post) := by
  refine GC.of (own := "ObjectFileModel") pn_MO rfl (Nat.le_of_ble_eq_true rfl) ?_
  intro p e s m below meth c X hK hr hlk
  have r_97 : ∀ (n : Nat) (v1 : Int32) (v2 : Int32) (M : gMem), wl_MO_stringFor_97 post n v1 v2 M → GMx D ta base p l e 0 0 s m [.ref (base + 41)] below meth c (gPi post) 4 97 [(0, .ref (base + 41)), (1, .int v1), (2, .int v2)] [] M := by
    intro n
    induction n with
    | zero => exact fun _ _ M h => h.elim
    | succ n ih =>
      intro v1 v2 M h
      refine g_iload_n X dMO_stringFor_97 rfl 2 rfl ?_
      refine g_aload_n X dMO_stringFor_98 rfl 0 rfl ?_
      refine g_geti X hK.1 fw_MO_165 ly_41 rfl dMO_stringFor_99 ?_
      refine g_icmp_ge X dMO_stringFor_102 (fun c => ?_) (fun c => ?_)
      · have h := h.1 c
        refine g_aload_n X dMO_stringFor_125 rfl 0 rfl ?_
        refine g_getr X hK.1 fw_MO_92 ly_41 rfl dMO_stringFor_126 ?_
        refine g_iload_n X dMO_stringFor_129 rfl 1 rfl ?_
        refine g_aload_n X dMO_stringFor_130 rfl 0 rfl ?_
        refine g_geti X hK.1 fw_MO_165 ly_41 rfl dMO_stringFor_131 ?_
        refine g_iadd X dMO_stringFor_134 ?_
        refine g_iconst X (v := (0 : Int32)) dMO_stringFor_135 (by decide) ?_
        obtain ⟨hi, h⟩ := h
        refine g_iast X hK.1 ly_68 hi dMO_stringFor_136 ?_
        refine g_topM (fun M2 eM2 => ?_)
        have h := h M2 eM2
        refine g_aload_n X dMO_stringFor_137 rfl 0 rfl ?_
        refine g_iload_n X dMO_stringFor_138 rfl 1 rfl ?_
        refine g_aload_n X dMO_stringFor_139 rfl 0 rfl ?_
        refine g_geti X hK.1 fw_MO_165 ly_41 rfl dMO_stringFor_140 ?_
        refine g_iadd X dMO_stringFor_143 ?_
        refine g_iconst X (v := (1 : Int32)) dMO_stringFor_144 (by decide) ?_
        refine g_iadd X dMO_stringFor_145 ?_
        refine g_puti X hK.1 fw_MO_162 pw_MO_30 ly_41 rfl dMO_stringFor_146 ?_
        refine g_topM (fun M3 eM3 => ?_)
        have h := h M3 eM3
        refine g_iload_n X dMO_stringFor_149 rfl 1 rfl ?_
        exact g_iret X hr hlk dMO_stringFor_150 ⟨_, rfl, h⟩
      · have h := h.2 c
        refine g_aload_n X dMO_stringFor_105 rfl 0 rfl ?_
        refine g_getr X hK.1 fw_MO_92 ly_41 rfl dMO_stringFor_106 ?_
        refine g_iload_n X dMO_stringFor_109 rfl 1 rfl ?_
        refine g_iload_n X dMO_stringFor_110 rfl 2 rfl ?_
        refine g_iadd X dMO_stringFor_111 ?_
        refine g_aload_n X dMO_stringFor_112 rfl 0 rfl ?_
        refine g_getr X hK.1 fw_MO_95 ly_41 rfl dMO_stringFor_113 ?_
        refine g_iload_n X dMO_stringFor_116 rfl 2 rfl ?_
        obtain ⟨hi, h⟩ := h
        refine g_iald X hK.1 ly_69 hi dMO_stringFor_117 ?_
        obtain ⟨hi, h⟩ := h
        refine g_iast X hK.1 ly_68 hi dMO_stringFor_118 ?_
        refine g_topM (fun M4 eM4 => ?_)
        have h := h M4 eM4
        obtain ⟨x5, ex5⟩ : ∃ z : Int32, z = v2 + (1 : Int32) := ⟨_, rfl⟩
        have h := h x5 ex5
        refine g_iinc X (L' := [(2, .int x5), (0, .ref (base + 41)), (1, .int v1)]) (k := 2) dMO_stringFor_119 rfl (v := x5) (by rw [ex5]; rfl) (Nat.le_of_ble_eq_true rfl) rfl ?_
        refine g_goto X dMO_stringFor_122 ?_
        refine g_sub (L' := [(0, .ref (base + 41)), (1, .int v1), (2, .int x5)]) [1, 2, 0] rfl ?_
        exact ih v1 x5 M4 h
  have r_37 : ∀ (k2 : Int32 → gMem → Prop) (hk2 : ∀ (v1 : Int32) (M : gMem), k2 v1 M → GMx D ta base p l e 0 0 s m [.ref (base + 41)] below meth c (gPi post) 4 2 [(0, .ref (base + 41)), (1, .int v1)] [] M) (n : Nat) (v1 : Int32) (v2 : Int32) (v3 : Int32) (M : gMem), wl_MO_stringFor_37 post k2 n v1 v2 v3 M → GMx D ta base p l e 0 0 s m [.ref (base + 41)] below meth c (gPi post) 4 37 [(0, .ref (base + 41)), (1, .int v1), (2, .int v2), (3, .int v3)] [] M := by
    intro k2 hk2 n
    induction n with
    | zero => exact fun _ _ _ M h => h.elim
    | succ n ih =>
      intro v1 v2 v3 M h
      refine g_iload_n X dMO_stringFor_37 rfl 3 rfl ?_
      refine g_aload_n X dMO_stringFor_38 rfl 0 rfl ?_
      refine g_geti X hK.1 fw_MO_165 ly_41 rfl dMO_stringFor_39 ?_
      refine g_icmp_ge X dMO_stringFor_42 (fun c => ?_) (fun c => ?_)
      · have h := h.1 c
        refine g_iload_n X dMO_stringFor_78 rfl 2 rfl ?_
        refine g_if_eq X dMO_stringFor_79 (fun c => ?_) (fun c => ?_)
        · have h := h.1 c
          obtain ⟨x6, ex6⟩ : ∃ z : Int32, z = v1 + (1 : Int32) := ⟨_, rfl⟩
          have h := h x6 ex6
          refine g_iinc X (L' := [(1, .int x6), (0, .ref (base + 41)), (2, .int v2), (3, .int v3)]) (k := 1) dMO_stringFor_84 rfl (v := x6) (by rw [ex6]; rfl) (Nat.le_of_ble_eq_true rfl) rfl ?_
          refine g_goto X dMO_stringFor_87 ?_
          refine g_sub (L' := [(0, .ref (base + 41)), (1, .int x6)]) [1, 0] rfl ?_
          exact hk2 x6 M h
        · have h := h.2 c
          refine g_iload_n X dMO_stringFor_82 rfl 1 rfl ?_
          exact g_iret X hr hlk dMO_stringFor_83 ⟨_, rfl, h⟩
      · have h := h.2 c
        refine g_iload_n X dMO_stringFor_45 rfl 2 rfl ?_
        refine g_if_eq X dMO_stringFor_46 (fun c => ?_) (fun c => ?_)
        · have h := h.1 c
          refine g_iload_n X dMO_stringFor_78 rfl 2 rfl ?_
          refine g_if_eq X dMO_stringFor_79 (fun c => ?_) (fun c => ?_)
          · have h := h.1 c
            obtain ⟨x7, ex7⟩ : ∃ z : Int32, z = v1 + (1 : Int32) := ⟨_, rfl⟩
            have h := h x7 ex7
            refine g_iinc X (L' := [(1, .int x7), (0, .ref (base + 41)), (2, .int v2), (3, .int v3)]) (k := 1) dMO_stringFor_84 rfl (v := x7) (by rw [ex7]; rfl) (Nat.le_of_ble_eq_true rfl) rfl ?_
            refine g_goto X dMO_stringFor_87 ?_
            refine g_sub (L' := [(0, .ref (base + 41)), (1, .int x7)]) [1, 0] rfl ?_
            exact hk2 x7 M h
          · have h := h.2 c
            refine g_iload_n X dMO_stringFor_82 rfl 1 rfl ?_
            exact g_iret X hr hlk dMO_stringFor_83 ⟨_, rfl, h⟩
        · have h := h.2 c
          refine g_aload_n X dMO_stringFor_49 rfl 0 rfl ?_
          refine g_getr X hK.1 fw_MO_92 ly_41 rfl dMO_stringFor_50 ?_
          refine g_iload_n X dMO_stringFor_53 rfl 1 rfl ?_
          refine g_iload_n X dMO_stringFor_54 rfl 3 rfl ?_
          refine g_iadd X dMO_stringFor_55 ?_
          obtain ⟨hi, h⟩ := h
          refine g_iald X hK.1 ly_68 hi dMO_stringFor_56 ?_
          refine g_aload_n X dMO_stringFor_57 rfl 0 rfl ?_
          refine g_getr X hK.1 fw_MO_95 ly_41 rfl dMO_stringFor_58 ?_
          refine g_iload_n X dMO_stringFor_61 rfl 3 rfl ?_
          obtain ⟨hi, h⟩ := h
          refine g_iald X hK.1 ly_69 hi dMO_stringFor_62 ?_
          refine g_icmp_ne X dMO_stringFor_63 (fun c => ?_) (fun c => ?_)
          · have h := h.1 c
            refine g_iconst X (v := (0 : Int32)) dMO_stringFor_70 (by decide) ?_
            refine g_istore_n X (L' := [(2, .int (0 : Int32)), (0, .ref (base + 41)), (1, .int v1), (3, .int v3)]) dMO_stringFor_71 rfl (Nat.le_of_ble_eq_true rfl) rfl ?_
            obtain ⟨x8, ex8⟩ : ∃ z : Int32, z = v3 + (1 : Int32) := ⟨_, rfl⟩
            have h := h x8 ex8
            refine g_iinc X (L' := [(3, .int x8), (2, .int (0 : Int32)), (0, .ref (base + 41)), (1, .int v1)]) (k := 3) dMO_stringFor_72 rfl (v := x8) (by rw [ex8]; rfl) (Nat.le_of_ble_eq_true rfl) rfl ?_
            refine g_goto X dMO_stringFor_75 ?_
            refine g_sub (L' := [(0, .ref (base + 41)), (1, .int v1), (2, .int (0 : Int32)), (3, .int x8)]) [2, 3, 1, 0] rfl ?_
            exact ih v1 (0 : Int32) x8 M h
          · have h := h.2 c
            refine g_iconst X (v := (1 : Int32)) dMO_stringFor_66 (by decide) ?_
            refine g_goto X dMO_stringFor_67 ?_
            refine g_istore_n X (L' := [(2, .int (1 : Int32)), (0, .ref (base + 41)), (1, .int v1), (3, .int v3)]) dMO_stringFor_71 rfl (Nat.le_of_ble_eq_true rfl) rfl ?_
            obtain ⟨x9, ex9⟩ : ∃ z : Int32, z = v3 + (1 : Int32) := ⟨_, rfl⟩
            have h := h x9 ex9
            refine g_iinc X (L' := [(3, .int x9), (2, .int (1 : Int32)), (0, .ref (base + 41)), (1, .int v1)]) (k := 3) dMO_stringFor_72 rfl (v := x9) (by rw [ex9]; rfl) (Nat.le_of_ble_eq_true rfl) rfl ?_
            refine g_goto X dMO_stringFor_75 ?_
            refine g_sub (L' := [(0, .ref (base + 41)), (1, .int v1), (2, .int (1 : Int32)), (3, .int x9)]) [2, 3, 1, 0] rfl ?_
            exact ih v1 (1 : Int32) x9 M h
  have r_2 : ∀ (n : Nat) (v1 : Int32) (M : gMem), wl_MO_stringFor_2 post n v1 M → GMx D ta base p l e 0 0 s m [.ref (base + 41)] below meth c (gPi post) 4 2 [(0, .ref (base + 41)), (1, .int v1)] [] M := by
    intro n
    induction n with
    | zero => exact fun _ M h => h.elim
    | succ n ih =>
      intro v1 M h
      refine g_iload_n X dMO_stringFor_2 rfl 1 rfl ?_
      refine g_aload_n X dMO_stringFor_3 rfl 0 rfl ?_
      refine g_geti X hK.1 fw_MO_165 ly_41 rfl dMO_stringFor_4 ?_
      refine g_iadd X dMO_stringFor_7 ?_
      refine g_aload_n X dMO_stringFor_8 rfl 0 rfl ?_
      refine g_geti X hK.1 fw_MO_162 ly_41 rfl dMO_stringFor_9 ?_
      refine g_icmp_ge X dMO_stringFor_12 (fun c => ?_) (fun c => ?_)
      · have h := h.1 c
        refine g_aload_n X dMO_stringFor_90 rfl 0 rfl ?_
        refine g_geti X hK.1 fw_MO_162 ly_41 rfl dMO_stringFor_91 ?_
        refine g_topi (fun x1 ex1 => ?_)
        have h := h x1 ex1
        refine g_istore_n X (L' := [(1, .int x1), (0, .ref (base + 41))]) dMO_stringFor_94 rfl (Nat.le_of_ble_eq_true rfl) rfl ?_
        refine g_iconst X (v := (0 : Int32)) dMO_stringFor_95 (by decide) ?_
        refine g_istore_n X (L' := [(2, .int (0 : Int32)), (1, .int x1), (0, .ref (base + 41))]) dMO_stringFor_96 rfl (Nat.le_of_ble_eq_true rfl) rfl ?_
        refine g_sub (L' := [(0, .ref (base + 41)), (1, .int x1), (2, .int (0 : Int32))]) [2, 1, 0] rfl ?_
        obtain ⟨n9, h⟩ := h
        exact r_97 n9 x1 (0 : Int32) M h
      · have h := h.2 c
        refine g_aload_n X dMO_stringFor_15 rfl 0 rfl ?_
        refine g_getr X hK.1 fw_MO_92 ly_41 rfl dMO_stringFor_16 ?_
        refine g_iload_n X dMO_stringFor_19 rfl 1 rfl ?_
        refine g_aload_n X dMO_stringFor_20 rfl 0 rfl ?_
        refine g_geti X hK.1 fw_MO_165 ly_41 rfl dMO_stringFor_21 ?_
        refine g_iadd X dMO_stringFor_24 ?_
        obtain ⟨hi, h⟩ := h
        refine g_iald X hK.1 ly_68 hi dMO_stringFor_25 ?_
        refine g_if_ne X dMO_stringFor_26 (fun c => ?_) (fun c => ?_)
        · have h := h.1 c
          refine g_iconst X (v := (0 : Int32)) dMO_stringFor_33 (by decide) ?_
          refine g_istore_n X (L' := [(2, .int (0 : Int32)), (0, .ref (base + 41)), (1, .int v1)]) dMO_stringFor_34 rfl (Nat.le_of_ble_eq_true rfl) rfl ?_
          refine g_iconst X (v := (0 : Int32)) dMO_stringFor_35 (by decide) ?_
          refine g_istore_n X (L' := [(3, .int (0 : Int32)), (2, .int (0 : Int32)), (0, .ref (base + 41)), (1, .int v1)]) dMO_stringFor_36 rfl (Nat.le_of_ble_eq_true rfl) rfl ?_
          refine g_sub (L' := [(0, .ref (base + 41)), (1, .int v1), (2, .int (0 : Int32)), (3, .int (0 : Int32))]) [2, 3, 1, 0] rfl ?_
          obtain ⟨n9, h⟩ := h
          exact r_37 _ (ih) n9 v1 (0 : Int32) (0 : Int32) M h
        · have h := h.2 c
          refine g_iconst X (v := (1 : Int32)) dMO_stringFor_29 (by decide) ?_
          refine g_goto X dMO_stringFor_30 ?_
          refine g_istore_n X (L' := [(2, .int (1 : Int32)), (0, .ref (base + 41)), (1, .int v1)]) dMO_stringFor_34 rfl (Nat.le_of_ble_eq_true rfl) rfl ?_
          refine g_iconst X (v := (0 : Int32)) dMO_stringFor_35 (by decide) ?_
          refine g_istore_n X (L' := [(3, .int (0 : Int32)), (2, .int (1 : Int32)), (0, .ref (base + 41)), (1, .int v1)]) dMO_stringFor_36 rfl (Nat.le_of_ble_eq_true rfl) rfl ?_
          refine g_sub (L' := [(0, .ref (base + 41)), (1, .int v1), (2, .int (1 : Int32)), (3, .int (0 : Int32))]) [2, 3, 1, 0] rfl ?_
          obtain ⟨n9, h⟩ := h
          exact r_37 _ (ih) n9 v1 (1 : Int32) (0 : Int32) M h
  refine g_args (L' := [(0, .ref (base + 41))]) rfl ?_
  unfold wp_MO_stringFor at h
  refine g_iconst X (v := (0 : Int32)) dMO_stringFor_0 (by decide) ?_
  refine g_istore_n X (L' := [(1, .int (0 : Int32)), (0, .ref (base + 41))]) dMO_stringFor_1 rfl (Nat.le_of_ble_eq_true rfl) rfl ?_
  refine g_sub (L' := [(0, .ref (base + 41)), (1, .int (0 : Int32))]) [1, 0] rfl ?_
  obtain ⟨n9, h⟩ := h
  exact r_2 n9 (0 : Int32) M h
set_option maxRecDepth 100000 in
set_option maxHeartbeats 4000000 in
theorem m_MO_sizeOfSymbolNames {l : Launch} {D : va_G} {ta : Nat → ClassId} {base : Nat} {sa : Nat → Nat} {post : Int32 → gMem → Prop} {M : gMem} (h : wp_MO_sizeOfSymbolNames post M) : GC gLay gCl D ta base gNw sa gTabs gTs l y_MO_sizeOfSymbolNames b_MO_sizeOfSymbolNames 4 (some .int) 1 23 [.ref (base + 41)] M (gPi post) := by
  refine GC.of (own := "ObjectFileModel") pn_MO rfl (Nat.le_of_ble_eq_true rfl) ?_
  intro p e s m below meth c X hK hr hlk
  have r_53 : ∀ (k6 : Int32 → gMem → Prop) (hk6 : ∀ (v1 : Int32) (M : gMem), k6 v1 M → GMx D ta base p l e 1 23 s m [.ref (base + 41)] below meth c (gPi post) 4 6 [(0, .ref (base + 41)), (1, .int v1)] [] M) (k18 : Int32 → Int32 → gMem → Prop) (hk18 : ∀ (v1 : Int32) (v2 : Int32) (M : gMem), k18 v1 v2 M → GMx D ta base p l e 1 23 s m [.ref (base + 41)] below meth c (gPi post) 4 18 [(0, .ref (base + 41)), (1, .int v1), (2, .int v2)] [] M) (n : Nat) (v1 : Int32) (v2 : Int32) (v3 : Int32) (M : gMem), wl_MO_sizeOfSymbolNames_53 post k6 k18 n v1 v2 v3 M → GMx D ta base p l e 1 23 s m [.ref (base + 41)] below meth c (gPi post) 4 53 [(0, .ref (base + 41)), (1, .int v1), (2, .int v2), (3, .int v3)] [] M := by
    intro k6 hk6 k18 hk18 n
    induction n with
    | zero => exact fun _ _ _ M h => h.elim
    | succ n ih =>
      intro v1 v2 v3 M h
      refine g_iload_n X dMO_sizeOfSymbolNames_53 rfl 3 rfl ?_
      refine g_aload_n X dMO_sizeOfSymbolNames_54 rfl 0 rfl ?_
      refine g_geti X hK.1 fw_MO_165 ly_41 rfl dMO_sizeOfSymbolNames_55 ?_
      refine g_icmp_ge X dMO_sizeOfSymbolNames_58 (fun c => ?_) (fun c => ?_)
      · have h := h.1 c
        refine g_aload_n X dMO_sizeOfSymbolNames_84 rfl 0 rfl ?_
        refine g_getr X hK.1 fw_MO_98 ly_41 rfl dMO_sizeOfSymbolNames_85 ?_
        refine g_iload_n X dMO_sizeOfSymbolNames_88 rfl 2 rfl ?_
        refine g_aload_n X dMO_sizeOfSymbolNames_89 rfl 0 rfl ?_
        refine g_callV X hK gTs_ok ly_41 rfl mw_MO_stringFor tw_1155 mi_MO_stringFor ms_MO_stringFor (As := []) rfl ⟨(Nat.le_of_ble_eq_true rfl), (Nat.le_of_ble_eq_true rfl), Nat.le_refl _, Nat.le_refl _⟩ (m_MO_stringFor h) (rest := [.int v2, .ref (base + 70)]) rfl (Nat.le_of_ble_eq_true rfl) dMO_sizeOfSymbolNames_90 (gk_i (fun r5 M6 h => ?_))
        obtain ⟨hi, h⟩ := h
        refine g_iast X hK.1 ly_70 hi dMO_sizeOfSymbolNames_93 ?_
        refine g_topM (fun M7 eM7 => ?_)
        have h := h M7 eM7
        obtain ⟨x8, ex8⟩ : ∃ z : Int32, z = v2 + (1 : Int32) := ⟨_, rfl⟩
        have h := h x8 ex8
        refine g_iinc X (L' := [(2, .int x8), (0, .ref (base + 41)), (1, .int v1), (3, .int v3)]) (k := 2) dMO_sizeOfSymbolNames_94 rfl (v := x8) (by rw [ex8]; rfl) (Nat.le_of_ble_eq_true rfl) rfl ?_
        refine g_goto X dMO_sizeOfSymbolNames_97 ?_
        refine g_sub (L' := [(0, .ref (base + 41)), (1, .int v1), (2, .int x8)]) [1, 2, 0] rfl ?_
        exact hk18 v1 x8 M7 h
      · have h := h.2 c
        refine g_aload_n X dMO_sizeOfSymbolNames_61 rfl 0 rfl ?_
        refine g_getr X hK.1 fw_MO_95 ly_41 rfl dMO_sizeOfSymbolNames_62 ?_
        refine g_iload_n X dMO_sizeOfSymbolNames_65 rfl 3 rfl ?_
        refine g_aload_n X dMO_sizeOfSymbolNames_66 rfl 0 rfl ?_
        refine g_getr X hK.1 fw_MO_43 ly_41 rfl dMO_sizeOfSymbolNames_67 ?_
        refine g_bipush X (v := (16 : Int32)) dMO_sizeOfSymbolNames_70 (by decide) ?_
        refine g_iload_n X dMO_sizeOfSymbolNames_72 rfl 2 rfl ?_
        refine g_imul X dMO_sizeOfSymbolNames_73 ?_
        refine g_iload_n X dMO_sizeOfSymbolNames_74 rfl 3 rfl ?_
        refine g_iadd X dMO_sizeOfSymbolNames_75 ?_
        obtain ⟨hi, h⟩ := h
        refine g_iald X hK.1 ly_53 hi dMO_sizeOfSymbolNames_76 ?_
        obtain ⟨hi, h⟩ := h
        refine g_iast X hK.1 ly_69 hi dMO_sizeOfSymbolNames_77 ?_
        refine g_topM (fun M9 eM9 => ?_)
        have h := h M9 eM9
        obtain ⟨x10, ex10⟩ : ∃ z : Int32, z = v3 + (1 : Int32) := ⟨_, rfl⟩
        have h := h x10 ex10
        refine g_iinc X (L' := [(3, .int x10), (0, .ref (base + 41)), (1, .int v1), (2, .int v2)]) (k := 3) dMO_sizeOfSymbolNames_78 rfl (v := x10) (by rw [ex10]; rfl) (Nat.le_of_ble_eq_true rfl) rfl ?_
        refine g_goto X dMO_sizeOfSymbolNames_81 ?_
        refine g_sub (L' := [(0, .ref (base + 41)), (1, .int v1), (2, .int v2), (3, .int x10)]) [1, 2, 3, 0] rfl ?_
        exact ih v1 v2 x10 M9 h
  have r_18 : ∀ (k6 : Int32 → gMem → Prop) (hk6 : ∀ (v1 : Int32) (M : gMem), k6 v1 M → GMx D ta base p l e 1 23 s m [.ref (base + 41)] below meth c (gPi post) 4 6 [(0, .ref (base + 41)), (1, .int v1)] [] M) (n : Nat) (v1 : Int32) (v2 : Int32) (M : gMem), wl_MO_sizeOfSymbolNames_18 post k6 n v1 v2 M → GMx D ta base p l e 1 23 s m [.ref (base + 41)] below meth c (gPi post) 4 18 [(0, .ref (base + 41)), (1, .int v1), (2, .int v2)] [] M := by
    intro k6 hk6 n
    induction n with
    | zero => exact fun _ _ M h => h.elim
    | succ n ih =>
      intro v1 v2 M h
      refine g_iload_n X dMO_sizeOfSymbolNames_18 rfl 2 rfl ?_
      refine g_aload_n X dMO_sizeOfSymbolNames_19 rfl 0 rfl ?_
      refine g_getr X hK.1 fw_MO_46 ly_41 rfl dMO_sizeOfSymbolNames_20 ?_
      refine g_iconst X (v := (0 : Int32)) dMO_sizeOfSymbolNames_23 (by decide) ?_
      obtain ⟨hi, h⟩ := h
      refine g_iald X hK.1 ly_54 hi dMO_sizeOfSymbolNames_24 ?_
      refine g_icmp_ge X dMO_sizeOfSymbolNames_25 (fun c => ?_) (fun c => ?_)
      · have h := h.1 c
        obtain ⟨x3, ex3⟩ : ∃ z : Int32, z = v1 + (1 : Int32) := ⟨_, rfl⟩
        have h := h x3 ex3
        refine g_iinc X (L' := [(1, .int x3), (0, .ref (base + 41)), (2, .int v2)]) (k := 1) dMO_sizeOfSymbolNames_100 rfl (v := x3) (by rw [ex3]; rfl) (Nat.le_of_ble_eq_true rfl) rfl ?_
        refine g_goto X dMO_sizeOfSymbolNames_103 ?_
        refine g_sub (L' := [(0, .ref (base + 41)), (1, .int x3)]) [1, 0] rfl ?_
        exact hk6 x3 M h
      · have h := h.2 c
        refine g_aload_n X dMO_sizeOfSymbolNames_28 rfl 0 rfl ?_
        refine g_getr X hK.1 fw_MO_101 ly_41 rfl dMO_sizeOfSymbolNames_29 ?_
        refine g_iload_n X dMO_sizeOfSymbolNames_32 rfl 2 rfl ?_
        obtain ⟨hi, h⟩ := h
        refine g_iald X hK.1 ly_71 hi dMO_sizeOfSymbolNames_33 ?_
        refine g_iload_n X dMO_sizeOfSymbolNames_34 rfl 1 rfl ?_
        refine g_icmp_eq X dMO_sizeOfSymbolNames_35 (fun c => ?_) (fun c => ?_)
        · have h := h.1 c
          refine g_aload_n X dMO_sizeOfSymbolNames_41 rfl 0 rfl ?_
          refine g_aload_n X dMO_sizeOfSymbolNames_42 rfl 0 rfl ?_
          refine g_getr X hK.1 fw_MO_40 ly_41 rfl dMO_sizeOfSymbolNames_43 ?_
          refine g_iload_n X dMO_sizeOfSymbolNames_46 rfl 2 rfl ?_
          obtain ⟨hi, h⟩ := h
          refine g_iald X hK.1 ly_52 hi dMO_sizeOfSymbolNames_47 ?_
          refine g_puti X hK.1 fw_MO_165 pw_MO_32 ly_41 rfl dMO_sizeOfSymbolNames_48 ?_
          refine g_topM (fun M4 eM4 => ?_)
          have h := h M4 eM4
          refine g_iconst X (v := (0 : Int32)) dMO_sizeOfSymbolNames_51 (by decide) ?_
          refine g_istore_n X (L' := [(3, .int (0 : Int32)), (0, .ref (base + 41)), (1, .int v1), (2, .int v2)]) dMO_sizeOfSymbolNames_52 rfl (Nat.le_of_ble_eq_true rfl) rfl ?_
          refine g_sub (L' := [(0, .ref (base + 41)), (1, .int v1), (2, .int v2), (3, .int (0 : Int32))]) [1, 2, 3, 0] rfl ?_
          obtain ⟨n9, h⟩ := h
          exact r_53 _ hk6 _ (ih) n9 v1 v2 (0 : Int32) M4 h
        · have h := h.2 c
          refine g_goto X dMO_sizeOfSymbolNames_38 ?_
          obtain ⟨x11, ex11⟩ : ∃ z : Int32, z = v2 + (1 : Int32) := ⟨_, rfl⟩
          have h := h x11 ex11
          refine g_iinc X (L' := [(2, .int x11), (0, .ref (base + 41)), (1, .int v1)]) (k := 2) dMO_sizeOfSymbolNames_94 rfl (v := x11) (by rw [ex11]; rfl) (Nat.le_of_ble_eq_true rfl) rfl ?_
          refine g_goto X dMO_sizeOfSymbolNames_97 ?_
          refine g_sub (L' := [(0, .ref (base + 41)), (1, .int v1), (2, .int x11)]) [1, 2, 0] rfl ?_
          exact ih v1 x11 M h
  have r_6 : ∀ (n : Nat) (v1 : Int32) (M : gMem), wl_MO_sizeOfSymbolNames_6 post n v1 M → GMx D ta base p l e 1 23 s m [.ref (base + 41)] below meth c (gPi post) 4 6 [(0, .ref (base + 41)), (1, .int v1)] [] M := by
    intro n
    induction n with
    | zero => exact fun _ M h => h.elim
    | succ n ih =>
      intro v1 M h
      refine g_iload_n X dMO_sizeOfSymbolNames_6 rfl 1 rfl ?_
      refine g_aload_n X dMO_sizeOfSymbolNames_7 rfl 0 rfl ?_
      refine g_getr X hK.1 fw_MO_46 ly_41 rfl dMO_sizeOfSymbolNames_8 ?_
      refine g_iconst X (v := (0 : Int32)) dMO_sizeOfSymbolNames_11 (by decide) ?_
      obtain ⟨hi, h⟩ := h
      refine g_iald X hK.1 ly_54 hi dMO_sizeOfSymbolNames_12 ?_
      refine g_icmp_ge X dMO_sizeOfSymbolNames_13 (fun c => ?_) (fun c => ?_)
      · have h := h.1 c
        refine g_aload_n X dMO_sizeOfSymbolNames_106 rfl 0 rfl ?_
        refine g_geti X hK.1 fw_MO_162 ly_41 rfl dMO_sizeOfSymbolNames_107 ?_
        exact g_iret X hr hlk dMO_sizeOfSymbolNames_110 ⟨_, rfl, h⟩
      · have h := h.2 c
        refine g_iconst X (v := (0 : Int32)) dMO_sizeOfSymbolNames_16 (by decide) ?_
        refine g_istore_n X (L' := [(2, .int (0 : Int32)), (0, .ref (base + 41)), (1, .int v1)]) dMO_sizeOfSymbolNames_17 rfl (Nat.le_of_ble_eq_true rfl) rfl ?_
        refine g_sub (L' := [(0, .ref (base + 41)), (1, .int v1), (2, .int (0 : Int32))]) [1, 2, 0] rfl ?_
        obtain ⟨n9, h⟩ := h
        exact r_18 _ (ih) n9 v1 (0 : Int32) M h
  refine g_args (L' := [(0, .ref (base + 41))]) rfl ?_
  unfold wp_MO_sizeOfSymbolNames at h
  refine g_aload_n X dMO_sizeOfSymbolNames_0 rfl 0 rfl ?_
  refine g_callV X hK gTs_ok ly_41 rfl mw_MO_begin tw_1151 mi_MO_begin ms_MO_begin (As := []) rfl ⟨(Nat.le_of_ble_eq_true rfl), (Nat.le_of_ble_eq_true rfl), Nat.le_refl _, Nat.le_refl _⟩ (m_MO_begin h) (rest := []) rfl (Nat.le_of_ble_eq_true rfl) dMO_sizeOfSymbolNames_1 (gk_v (fun M2 h => ?_))
  refine g_iconst X (v := (0 : Int32)) dMO_sizeOfSymbolNames_4 (by decide) ?_
  refine g_istore_n X (L' := [(1, .int (0 : Int32)), (0, .ref (base + 41))]) dMO_sizeOfSymbolNames_5 rfl (Nat.le_of_ble_eq_true rfl) rfl ?_
  refine g_sub (L' := [(0, .ref (base + 41)), (1, .int (0 : Int32))]) [1, 0] rfl ?_
  obtain ⟨n9, h⟩ := h
  exact r_6 n9 (0 : Int32) M2 h
set_option maxRecDepth 100000 in
set_option maxHeartbeats 4000000 in
theorem m_MO_takeTitle {l : Launch} {D : va_G} {ta : Nat → ClassId} {base : Nat} {sa : Nat → Nat} {post : gMem → Prop} {a0 : Int32} {M : gMem} (h : wp_MO_takeTitle post a0 M) : GC gLay gCl D ta base gNw sa gTabs gTs l y_MO_takeTitle b_MO_takeTitle 3 none 0 0 [.ref (base + 41), .int a0] M (gPv post) := by
  refine GC.of (own := "ObjectFileModel") pn_MO rfl (Nat.le_of_ble_eq_true rfl) ?_
  intro p e s m below meth c X hK hr hlk
  have r_12 : ∀ (n : Nat) (v2 : Int32) (M : gMem), wl_MO_takeTitle_12 post n v2 M → GMx D ta base p l e 0 0 s m [.ref (base + 41), .int a0] below meth c (gPv post) 3 12 [(0, .ref (base + 41)), (2, .int v2)] [] M := by
    intro n
    induction n with
    | zero => exact fun _ M h => h.elim
    | succ n ih =>
      intro v2 M h
      refine g_aload_n X dMO_takeTitle_12 rfl 0 rfl ?_
      refine g_getr X hK.1 fw_MO_77 ly_41 rfl dMO_takeTitle_13 ?_
      refine g_iload_n X dMO_takeTitle_16 rfl 1 rfl ?_
      obtain ⟨hi, h⟩ := h
      refine g_iald X hK.1 ly_63 hi dMO_takeTitle_17 ?_
      refine g_if_eq X dMO_takeTitle_18 (fun c => ?_) (fun c => ?_)
      · have h := h.1 c
        exact g_vret X hr hlk dMO_takeTitle_52 ⟨rfl, h⟩
      · have h := h.2 c
        refine g_aload_n X dMO_takeTitle_21 rfl 0 rfl ?_
        refine g_getr X hK.1 fw_MO_95 ly_41 rfl dMO_takeTitle_22 ?_
        refine g_aload_n X dMO_takeTitle_25 rfl 0 rfl ?_
        refine g_geti X hK.1 fw_MO_165 ly_41 rfl dMO_takeTitle_26 ?_
        refine g_aload_n X dMO_takeTitle_29 rfl 0 rfl ?_
        refine g_getr X hK.1 fw_MO_77 ly_41 rfl dMO_takeTitle_30 ?_
        refine g_iload_n X dMO_takeTitle_33 rfl 1 rfl ?_
        obtain ⟨hi, h⟩ := h
        refine g_iald X hK.1 ly_63 hi dMO_takeTitle_34 ?_
        obtain ⟨hi, h⟩ := h
        refine g_iast X hK.1 ly_69 hi dMO_takeTitle_35 ?_
        refine g_topM (fun M3 eM3 => ?_)
        have h := h M3 eM3
        refine g_aload_n X dMO_takeTitle_36 rfl 0 rfl ?_
        refine g_dup X dMO_takeTitle_37 rfl ?_
        refine g_geti X hK.1 fw_MO_165 ly_41 rfl dMO_takeTitle_38 ?_
        refine g_iconst X (v := (1 : Int32)) dMO_takeTitle_41 (by decide) ?_
        refine g_iadd X dMO_takeTitle_42 ?_
        refine g_puti X hK.1 fw_MO_165 pw_MO_32 ly_41 rfl dMO_takeTitle_43 ?_
        refine g_topM (fun M4 eM4 => ?_)
        have h := h M4 eM4
        obtain ⟨x5, ex5⟩ : ∃ z : Int32, z = v2 + (1 : Int32) := ⟨_, rfl⟩
        have h := h x5 ex5
        refine g_iinc X (L' := [(2, .int x5), (0, .ref (base + 41))]) (k := 1) dMO_takeTitle_46 rfl (v := x5) (by rw [ex5]; rfl) (Nat.le_of_ble_eq_true rfl) rfl ?_
        refine g_goto X dMO_takeTitle_49 ?_
        refine g_sub (L' := [(0, .ref (base + 41)), (2, .int x5)]) [1, 0] rfl ?_
        exact ih x5 M4 h
  refine g_args (L' := [(0, .ref (base + 41)), (1, .int a0)]) rfl ?_
  unfold wp_MO_takeTitle at h
  refine g_aload_n X dMO_takeTitle_0 rfl 0 rfl ?_
  refine g_iconst X (v := (0 : Int32)) dMO_takeTitle_1 (by decide) ?_
  refine g_puti X hK.1 fw_MO_165 pw_MO_32 ly_41 rfl dMO_takeTitle_2 ?_
  refine g_topM (fun M1 eM1 => ?_)
  have h := h M1 eM1
  refine g_aload_n X dMO_takeTitle_5 rfl 0 rfl ?_
  refine g_getr X hK.1 fw_MO_80 ly_41 rfl dMO_takeTitle_6 ?_
  refine g_iload_n X dMO_takeTitle_9 rfl 1 rfl ?_
  obtain ⟨hi, h⟩ := h
  refine g_iald X hK.1 ly_64 hi dMO_takeTitle_10 ?_
  refine g_topi (fun x2 ex2 => ?_)
  have h := h x2 ex2
  refine g_istore_n X (L' := [(2, .int x2), (0, .ref (base + 41)), (1, .int a0)]) dMO_takeTitle_11 rfl (Nat.le_of_ble_eq_true rfl) rfl ?_
  refine g_sub (L' := [(0, .ref (base + 41)), (2, .int x2)]) [1, 0] rfl ?_
  obtain ⟨n9, h⟩ := h
  exact r_12 n9 x2 M1 h
set_option maxRecDepth 100000 in
set_option maxHeartbeats 4000000 in
theorem m_MO_sizeOfTitles {l : Launch} {D : va_G} {ta : Nat → ClassId} {base : Nat} {sa : Nat → Nat} {post : Int32 → gMem → Prop} {M : gMem} (h : wp_MO_sizeOfTitles post M) : GC gLay gCl D ta base gNw sa gTabs gTs l y_MO_sizeOfTitles b_MO_sizeOfTitles 2 (some .int) 1 23 [.ref (base + 41)] M (gPi post) := by
  refine GC.of (own := "ObjectFileModel") pn_MO rfl (Nat.le_of_ble_eq_true rfl) ?_
  intro p e s m below meth c X hK hr hlk
  have r_6 : ∀ (n : Nat) (v1 : Int32) (M : gMem), wl_MO_sizeOfTitles_6 post n v1 M → GMx D ta base p l e 1 23 s m [.ref (base + 41)] below meth c (gPi post) 2 6 [(0, .ref (base + 41)), (1, .int v1)] [] M := by
    intro n
    induction n with
    | zero => exact fun _ M h => h.elim
    | succ n ih =>
      intro v1 M h
      refine g_iload_n X dMO_sizeOfTitles_6 rfl 1 rfl ?_
      refine g_bipush X (v := (11 : Int32)) dMO_sizeOfTitles_7 (by decide) ?_
      refine g_icmp_ge X dMO_sizeOfTitles_9 (fun c => ?_) (fun c => ?_)
      · have h := h.1 c
        refine g_aload_n X dMO_sizeOfTitles_45 rfl 0 rfl ?_
        refine g_geti X hK.1 fw_MO_162 ly_41 rfl dMO_sizeOfTitles_46 ?_
        exact g_iret X hr hlk dMO_sizeOfTitles_49 ⟨_, rfl, h⟩
      · have h := h.2 c
        refine g_aload_n X dMO_sizeOfTitles_12 rfl 0 rfl ?_
        refine g_getr X hK.1 fw_MO_89 ly_41 rfl dMO_sizeOfTitles_13 ?_
        refine g_iload_n X dMO_sizeOfTitles_16 rfl 1 rfl ?_
        obtain ⟨hi, h⟩ := h
        refine g_iald X hK.1 ly_67 hi dMO_sizeOfTitles_17 ?_
        refine g_if_ne X dMO_sizeOfTitles_18 (fun c => ?_) (fun c => ?_)
        · have h := h.1 c
          refine g_aload_n X dMO_sizeOfTitles_24 rfl 0 rfl ?_
          refine g_iload_n X dMO_sizeOfTitles_25 rfl 1 rfl ?_
          refine g_callV X hK gTs_ok ly_41 rfl mw_MO_takeTitle tw_1163 mi_MO_takeTitle ms_MO_takeTitle (As := [.int v1]) rfl ⟨(Nat.le_of_ble_eq_true rfl), (Nat.le_of_ble_eq_true rfl), Nat.le_refl _, Nat.le_refl _⟩ (m_MO_takeTitle h) (rest := []) rfl (Nat.le_of_ble_eq_true rfl) dMO_sizeOfTitles_26 (gk_v (fun M4 h => ?_))
          refine g_aload_n X dMO_sizeOfTitles_29 rfl 0 rfl ?_
          refine g_getr X hK.1 fw_MO_104 ly_41 rfl dMO_sizeOfTitles_30 ?_
          refine g_iload_n X dMO_sizeOfTitles_33 rfl 1 rfl ?_
          refine g_aload_n X dMO_sizeOfTitles_34 rfl 0 rfl ?_
          refine g_callV X hK gTs_ok ly_41 rfl mw_MO_stringFor tw_1155 mi_MO_stringFor ms_MO_stringFor (As := []) rfl ⟨(Nat.le_of_ble_eq_true rfl), (Nat.le_of_ble_eq_true rfl), Nat.le_refl _, Nat.le_refl _⟩ (m_MO_stringFor h) (rest := [.int v1, .ref (base + 72)]) rfl (Nat.le_of_ble_eq_true rfl) dMO_sizeOfTitles_35 (gk_i (fun r5 M6 h => ?_))
          obtain ⟨hi, h⟩ := h
          refine g_iast X hK.1 ly_72 hi dMO_sizeOfTitles_38 ?_
          refine g_topM (fun M7 eM7 => ?_)
          have h := h M7 eM7
          obtain ⟨x8, ex8⟩ : ∃ z : Int32, z = v1 + (1 : Int32) := ⟨_, rfl⟩
          have h := h x8 ex8
          refine g_iinc X (L' := [(1, .int x8), (0, .ref (base + 41))]) (k := 1) dMO_sizeOfTitles_39 rfl (v := x8) (by rw [ex8]; rfl) (Nat.le_of_ble_eq_true rfl) rfl ?_
          refine g_goto X dMO_sizeOfTitles_42 ?_
          refine g_sub (L' := [(0, .ref (base + 41)), (1, .int x8)]) [1, 0] rfl ?_
          exact ih x8 M7 h
        · have h := h.2 c
          refine g_goto X dMO_sizeOfTitles_21 ?_
          obtain ⟨x9, ex9⟩ : ∃ z : Int32, z = v1 + (1 : Int32) := ⟨_, rfl⟩
          have h := h x9 ex9
          refine g_iinc X (L' := [(1, .int x9), (0, .ref (base + 41))]) (k := 1) dMO_sizeOfTitles_39 rfl (v := x9) (by rw [ex9]; rfl) (Nat.le_of_ble_eq_true rfl) rfl ?_
          refine g_goto X dMO_sizeOfTitles_42 ?_
          refine g_sub (L' := [(0, .ref (base + 41)), (1, .int x9)]) [1, 0] rfl ?_
          exact ih x9 M h
  refine g_args (L' := [(0, .ref (base + 41))]) rfl ?_
  unfold wp_MO_sizeOfTitles at h
  refine g_aload_n X dMO_sizeOfTitles_0 rfl 0 rfl ?_
  refine g_callV X hK gTs_ok ly_41 rfl mw_MO_begin tw_1151 mi_MO_begin ms_MO_begin (As := []) rfl ⟨(Nat.le_of_ble_eq_true rfl), (Nat.le_of_ble_eq_true rfl), Nat.le_refl _, Nat.le_refl _⟩ (m_MO_begin h) (rest := []) rfl (Nat.le_of_ble_eq_true rfl) dMO_sizeOfTitles_1 (gk_v (fun M2 h => ?_))
  refine g_iconst X (v := (0 : Int32)) dMO_sizeOfTitles_4 (by decide) ?_
  refine g_istore_n X (L' := [(1, .int (0 : Int32)), (0, .ref (base + 41))]) dMO_sizeOfTitles_5 rfl (Nat.le_of_ble_eq_true rfl) rfl ?_
  refine g_sub (L' := [(0, .ref (base + 41)), (1, .int (0 : Int32))]) [1, 0] rfl ?_
  obtain ⟨n9, h⟩ := h
  exact r_6 n9 (0 : Int32) M2 h
set_option maxRecDepth 100000 in
set_option maxHeartbeats 4000000 in
theorem m_MO_roundUp {l : Launch} {D : va_G} {ta : Nat → ClassId} {base : Nat} {sa : Nat → Nat} {post : Int32 → gMem → Prop} {a0 : Int32} {a1 : Int32} {M : gMem} (h : wp_MO_roundUp post a0 a1 M) : GC gLay gCl D ta base gNw sa gTabs gTs l y_MO_roundUp b_MO_roundUp 2 (some .int) 0 0 [.int a0, .int a1] M (gPi post) := by
  refine GC.of (own := "ObjectFileModel") pn_MO rfl (Nat.le_of_ble_eq_true rfl) ?_
  intro p e s m below meth c X hK hr hlk
  refine g_args (L' := [(0, .int a0), (1, .int a1)]) rfl ?_
  unfold wp_MO_roundUp at h
  refine g_iload_n X dMO_roundUp_0 rfl 0 rfl ?_
  refine g_iload_n X dMO_roundUp_1 rfl 1 rfl ?_
  refine g_iadd X dMO_roundUp_2 ?_
  refine g_iconst X (v := (1 : Int32)) dMO_roundUp_3 (by decide) ?_
  refine g_isub X dMO_roundUp_4 ?_
  refine g_iload_n X dMO_roundUp_5 rfl 1 rfl ?_
  obtain ⟨hz, h⟩ := h
  refine g_idiv X dMO_roundUp_6 hz ?_
  refine g_iload_n X dMO_roundUp_7 rfl 1 rfl ?_
  refine g_imul X dMO_roundUp_8 ?_
  exact g_iret X hr hlk dMO_roundUp_9 ⟨_, rfl, h⟩
set_option maxRecDepth 100000 in
set_option maxHeartbeats 4000000 in
theorem m_MO_relocationsOf {l : Launch} {D : va_G} {ta : Nat → ClassId} {base : Nat} {sa : Nat → Nat} {post : Int32 → gMem → Prop} {a0 : Int32} {M : gMem} (h : wp_MO_relocationsOf post a0 M) : GC gLay gCl D ta base gNw sa gTabs gTs l y_MO_relocationsOf b_MO_relocationsOf 4 (some .int) 0 0 [.ref (base + 41), .int a0] M (gPi post) := by
  refine GC.of (own := "ObjectFileModel") pn_MO rfl (Nat.le_of_ble_eq_true rfl) ?_
  intro p e s m below meth c X hK hr hlk
  have r_4 : ∀ (n : Nat) (v1 : Int32) (v2 : Int32) (v3 : Int32) (M : gMem), wl_MO_relocationsOf_4 post n v1 v2 v3 M → GMx D ta base p l e 0 0 s m [.ref (base + 41), .int a0] below meth c (gPi post) 4 4 [(0, .ref (base + 41)), (1, .int v1), (2, .int v2), (3, .int v3)] [] M := by
    intro n
    induction n with
    | zero => exact fun _ _ _ M h => h.elim
    | succ n ih =>
      intro v1 v2 v3 M h
      refine g_iload_n X dMO_relocationsOf_4 rfl 3 rfl ?_
      refine g_aload_n X dMO_relocationsOf_5 rfl 0 rfl ?_
      refine g_getr X hK.1 fw_MO_64 ly_41 rfl dMO_relocationsOf_6 ?_
      refine g_iconst X (v := (0 : Int32)) dMO_relocationsOf_9 (by decide) ?_
      obtain ⟨hi, h⟩ := h
      refine g_iald X hK.1 ly_60 hi dMO_relocationsOf_10 ?_
      refine g_icmp_ge X dMO_relocationsOf_11 (fun c => ?_) (fun c => ?_)
      · have h := h.1 c
        refine g_iload_n X dMO_relocationsOf_38 rfl 2 rfl ?_
        exact g_iret X hr hlk dMO_relocationsOf_39 ⟨_, rfl, h⟩
      · have h := h.2 c
        refine g_iload_n X dMO_relocationsOf_14 rfl 2 rfl ?_
        refine g_aload_n X dMO_relocationsOf_15 rfl 0 rfl ?_
        refine g_getr X hK.1 fw_MO_49 ly_41 rfl dMO_relocationsOf_16 ?_
        refine g_iload_n X dMO_relocationsOf_19 rfl 3 rfl ?_
        obtain ⟨hi, h⟩ := h
        refine g_iald X hK.1 ly_55 hi dMO_relocationsOf_20 ?_
        refine g_iload_n X dMO_relocationsOf_21 rfl 1 rfl ?_
        refine g_icmp_ne X dMO_relocationsOf_22 (fun c => ?_) (fun c => ?_)
        · have h := h.1 c
          refine g_iconst X (v := (0 : Int32)) dMO_relocationsOf_29 (by decide) ?_
          refine g_iadd X dMO_relocationsOf_30 ?_
          refine g_topi (fun x1 ex1 => ?_)
          have h := h x1 ex1
          refine g_istore_n X (L' := [(2, .int x1), (0, .ref (base + 41)), (1, .int v1), (3, .int v3)]) dMO_relocationsOf_31 rfl (Nat.le_of_ble_eq_true rfl) rfl ?_
          obtain ⟨x2, ex2⟩ : ∃ z : Int32, z = v3 + (1 : Int32) := ⟨_, rfl⟩
          have h := h x2 ex2
          refine g_iinc X (L' := [(3, .int x2), (2, .int x1), (0, .ref (base + 41)), (1, .int v1)]) (k := 3) dMO_relocationsOf_32 rfl (v := x2) (by rw [ex2]; rfl) (Nat.le_of_ble_eq_true rfl) rfl ?_
          refine g_goto X dMO_relocationsOf_35 ?_
          refine g_sub (L' := [(0, .ref (base + 41)), (1, .int v1), (2, .int x1), (3, .int x2)]) [2, 3, 1, 0] rfl ?_
          exact ih v1 x1 x2 M h
        · have h := h.2 c
          refine g_iconst X (v := (1 : Int32)) dMO_relocationsOf_25 (by decide) ?_
          refine g_goto X dMO_relocationsOf_26 ?_
          refine g_iadd X dMO_relocationsOf_30 ?_
          refine g_topi (fun x3 ex3 => ?_)
          have h := h x3 ex3
          refine g_istore_n X (L' := [(2, .int x3), (0, .ref (base + 41)), (1, .int v1), (3, .int v3)]) dMO_relocationsOf_31 rfl (Nat.le_of_ble_eq_true rfl) rfl ?_
          obtain ⟨x4, ex4⟩ : ∃ z : Int32, z = v3 + (1 : Int32) := ⟨_, rfl⟩
          have h := h x4 ex4
          refine g_iinc X (L' := [(3, .int x4), (2, .int x3), (0, .ref (base + 41)), (1, .int v1)]) (k := 3) dMO_relocationsOf_32 rfl (v := x4) (by rw [ex4]; rfl) (Nat.le_of_ble_eq_true rfl) rfl ?_
          refine g_goto X dMO_relocationsOf_35 ?_
          refine g_sub (L' := [(0, .ref (base + 41)), (1, .int v1), (2, .int x3), (3, .int x4)]) [2, 3, 1, 0] rfl ?_
          exact ih v1 x3 x4 M h
  refine g_args (L' := [(0, .ref (base + 41)), (1, .int a0)]) rfl ?_
  unfold wp_MO_relocationsOf at h
  refine g_iconst X (v := (0 : Int32)) dMO_relocationsOf_0 (by decide) ?_
  refine g_istore_n X (L' := [(2, .int (0 : Int32)), (0, .ref (base + 41)), (1, .int a0)]) dMO_relocationsOf_1 rfl (Nat.le_of_ble_eq_true rfl) rfl ?_
  refine g_iconst X (v := (0 : Int32)) dMO_relocationsOf_2 (by decide) ?_
  refine g_istore_n X (L' := [(3, .int (0 : Int32)), (2, .int (0 : Int32)), (0, .ref (base + 41)), (1, .int a0)]) dMO_relocationsOf_3 rfl (Nat.le_of_ble_eq_true rfl) rfl ?_
  refine g_sub (L' := [(0, .ref (base + 41)), (1, .int a0), (2, .int (0 : Int32)), (3, .int (0 : Int32))]) [2, 3, 1, 0] rfl ?_
  obtain ⟨n9, h⟩ := h
  exact r_4 n9 a0 (0 : Int32) (0 : Int32) M h
