set_option maxRecDepth 100000 in
set_option maxHeartbeats 4000000 in
theorem m_FI_tell {l : Launch} {D : va_G} {ta : Nat → ClassId} {base : Nat} {sa : Nat → Nat} {post : Int32 → gMem → Prop} {a0 : Int32} {a1 : Int32} {M : gMem} (h : wp_FI_tell post a0 a1 M) : GC gLay gCl D ta base gNw sa gTabs gTs l y_FI_tell b_FI_tell 3 (some .int) 0 0 [.ref (base + 32), .int a0, .int a1] M (gPi post) := by
  refine GC.of (own := "ObjectFile$Finding") pn_FI rfl (Nat.le_of_ble_eq_true rfl) ?_
  intro p e s m below meth c X hK hr hlk
  refine g_args (L' := [(0, .ref (base + 32)), (1, .int a0), (2, .int a1)]) rfl ?_
  unfold wp_FI_tell at h
  refine g_aload_n X dFI_tell_0 rfl 0 rfl ?_
  refine g_iload_n X dFI_tell_1 rfl 2 rfl ?_
  refine g_puti X hK.1 fw_FI_9 pw_FI_0 ly_32 rfl dFI_tell_2 ?_
  refine g_topM (fun M1 eM1 => ?_)
  have h := h M1 eM1
  refine g_iload_n X dFI_tell_5 rfl 1 rfl ?_
  exact g_iret X hr hlk dFI_tell_6 ⟨_, rfl, h⟩
set_option maxRecDepth 100000 in
set_option maxHeartbeats 4000000 in
theorem m_DI_markFault {l : Launch} {D : va_G} {ta : Nat → ClassId} {base : Nat} {sa : Nat → Nat} {post : Int32 → gMem → Prop} {M : gMem} (h : wp_DI_markFault post M) : GC gLay gCl D ta base gNw sa gTabs gTs l y_DI_markFault b_DI_markFault 2 (some .int) 1 22 [.ref (base + 33)] M (gPi post) := by
  refine GC.of (own := "ObjectFile$Directory") pn_DI rfl (Nat.le_of_ble_eq_true rfl) ?_
  intro p e s m below meth c X hK hr hlk
  have r_111 : ∀ (n : Nat) (v1 : Int32) (M : gMem), wl_DI_markFault_111 post n v1 M → GMx D ta base p l e 1 22 s m [.ref (base + 33)] below meth c (gPi post) 2 111 [(0, .ref (base + 33)), (1, .int v1)] [] M := by
    intro n
    induction n with
    | zero => exact fun _ M h => h.elim
    | succ n ih =>
      intro v1 M h
      refine g_iload_n X dDI_markFault_111 rfl 1 rfl ?_
      refine g_bipush X (v := (15 : Int32)) dDI_markFault_112 (by decide) ?_
      refine g_icmp_gt X dDI_markFault_114 (fun c => ?_) (fun c => ?_)
      · have h := h.1 c
        refine g_aload_n X dDI_markFault_145 rfl 0 rfl ?_
        refine g_getr X hK.1 fw_DI_27 ly_33 rfl dDI_markFault_146 ?_
        refine g_bipush X (v := (16 : Int32)) dDI_markFault_149 (by decide) ?_
        refine g_callVN X hK gTs_ok ly_17 rfl mw_FB_u2 nw_670 mi_FB_u2 ms_FB_u2 (As := [.int (16 : Int32)]) rfl ⟨(Nat.le_of_ble_eq_true rfl), (Nat.le_of_ble_eq_true rfl), Nat.le_refl _, Nat.le_refl _⟩ (m_FB_u2 h) (rest := []) rfl (Nat.le_of_ble_eq_true rfl) dDI_markFault_151 (gk_i (fun r1 M2 h => ?_))
        refine g_iconst X (v := (1 : Int32)) dDI_markFault_154 (by decide) ?_
        refine g_icmp_eq X dDI_markFault_155 (fun c => ?_) (fun c => ?_)
        · have h := h.1 c
          refine g_aload_n X dDI_markFault_170 rfl 0 rfl ?_
          refine g_getr X hK.1 fw_DI_27 ly_33 rfl dDI_markFault_171 ?_
          refine g_bipush X (v := (18 : Int32)) dDI_markFault_174 (by decide) ?_
          refine g_callVN X hK gTs_ok ly_17 rfl mw_FB_u2 nw_670 mi_FB_u2 ms_FB_u2 (As := [.int (18 : Int32)]) rfl ⟨(Nat.le_of_ble_eq_true rfl), (Nat.le_of_ble_eq_true rfl), Nat.le_refl _, Nat.le_refl _⟩ (m_FB_u2 h) (rest := []) rfl (Nat.le_of_ble_eq_true rfl) dDI_markFault_176 (gk_i (fun r3 M4 h => ?_))
          refine g_sipush X (v := (243 : Int32)) dDI_markFault_179 (by decide) ?_
          refine g_icmp_eq X dDI_markFault_182 (fun c => ?_) (fun c => ?_)
          · have h := h.1 c
            refine g_iconst X (v := (0 : Int32)) dDI_markFault_199 (by decide) ?_
            exact g_iret X hr hlk dDI_markFault_200 ⟨_, rfl, h⟩
          · have h := h.2 c
            refine g_aload_n X dDI_markFault_185 rfl 0 rfl ?_
            refine g_getr X hK.1 fw_DI_31 ly_33 rfl dDI_markFault_186 ?_
            refine g_bipush X (v := (8 : Int32)) dDI_markFault_189 (by decide) ?_
            refine g_bipush X (v := (18 : Int32)) dDI_markFault_191 (by decide) ?_
            refine g_callVN X hK gTs_ok ly_32 rfl mw_FI_tell nw_664 mi_FI_tell ms_FI_tell (As := [.int (8 : Int32), .int (18 : Int32)]) rfl ⟨(Nat.le_of_ble_eq_true rfl), (Nat.le_of_ble_eq_true rfl), Nat.le_refl _, Nat.le_refl _⟩ (m_FI_tell h) (rest := []) rfl (Nat.le_of_ble_eq_true rfl) dDI_markFault_193 (gk_i (fun r5 M6 h => ?_))
            refine g_goto X dDI_markFault_196 ?_
            exact g_iret X hr hlk dDI_markFault_200 ⟨_, rfl, h⟩
        · have h := h.2 c
          refine g_aload_n X dDI_markFault_158 rfl 0 rfl ?_
          refine g_getr X hK.1 fw_DI_31 ly_33 rfl dDI_markFault_159 ?_
          refine g_bipush X (v := (7 : Int32)) dDI_markFault_162 (by decide) ?_
          refine g_bipush X (v := (16 : Int32)) dDI_markFault_164 (by decide) ?_
          refine g_callVN X hK gTs_ok ly_32 rfl mw_FI_tell nw_664 mi_FI_tell ms_FI_tell (As := [.int (7 : Int32), .int (16 : Int32)]) rfl ⟨(Nat.le_of_ble_eq_true rfl), (Nat.le_of_ble_eq_true rfl), Nat.le_refl _, Nat.le_refl _⟩ (m_FI_tell h) (rest := []) rfl (Nat.le_of_ble_eq_true rfl) dDI_markFault_166 (gk_i (fun r7 M8 h => ?_))
          exact g_iret X hr hlk dDI_markFault_169 ⟨_, rfl, h⟩
      · have h := h.2 c
        refine g_aload_n X dDI_markFault_117 rfl 0 rfl ?_
        refine g_getr X hK.1 fw_DI_27 ly_33 rfl dDI_markFault_118 ?_
        refine g_iload_n X dDI_markFault_121 rfl 1 rfl ?_
        refine g_callVN X hK gTs_ok ly_17 rfl mw_FB_u1 nw_669 mi_FB_u1 ms_FB_u1 (As := [.int v1]) rfl ⟨(Nat.le_of_ble_eq_true rfl), (Nat.le_of_ble_eq_true rfl), Nat.le_refl _, Nat.le_refl _⟩ (m_FB_u1 h) (rest := []) rfl (Nat.le_of_ble_eq_true rfl) dDI_markFault_122 (gk_i (fun r9 M10 h => ?_))
        refine g_if_eq X dDI_markFault_125 (fun c => ?_) (fun c => ?_)
        · have h := h.1 c
          obtain ⟨x11, ex11⟩ : ∃ z : Int32, z = v1 + (1 : Int32) := ⟨_, rfl⟩
          have h := h x11 ex11
          refine g_iinc X (L' := [(1, .int x11), (0, .ref (base + 33))]) (k := 1) dDI_markFault_139 rfl (v := x11) (by rw [ex11]; rfl) (Nat.le_of_ble_eq_true rfl) rfl ?_
          refine g_goto X dDI_markFault_142 ?_
          refine g_sub (L' := [(0, .ref (base + 33)), (1, .int x11)]) [1, 0] rfl ?_
          exact ih x11 M10 h
        · have h := h.2 c
          refine g_aload_n X dDI_markFault_128 rfl 0 rfl ?_
          refine g_getr X hK.1 fw_DI_31 ly_33 rfl dDI_markFault_129 ?_
          refine g_bipush X (v := (6 : Int32)) dDI_markFault_132 (by decide) ?_
          refine g_iload_n X dDI_markFault_134 rfl 1 rfl ?_
          refine g_callVN X hK gTs_ok ly_32 rfl mw_FI_tell nw_664 mi_FI_tell ms_FI_tell (As := [.int (6 : Int32), .int v1]) rfl ⟨(Nat.le_of_ble_eq_true rfl), (Nat.le_of_ble_eq_true rfl), Nat.le_refl _, Nat.le_refl _⟩ (m_FI_tell h) (rest := []) rfl (Nat.le_of_ble_eq_true rfl) dDI_markFault_135 (gk_i (fun r12 M13 h => ?_))
          exact g_iret X hr hlk dDI_markFault_138 ⟨_, rfl, h⟩
  have r_72 : ∀ (n : Nat) (v1 : Int32) (M : gMem), wl_DI_markFault_72 post n v1 M → GMx D ta base p l e 1 22 s m [.ref (base + 33)] below meth c (gPi post) 2 72 [(0, .ref (base + 33)), (1, .int v1)] [] M := by
    intro n
    induction n with
    | zero => exact fun _ M h => h.elim
    | succ n ih =>
      intro v1 M h
      refine g_iload_n X dDI_markFault_72 rfl 1 rfl ?_
      refine g_bipush X (v := (6 : Int32)) dDI_markFault_73 (by decide) ?_
      refine g_icmp_gt X dDI_markFault_75 (fun c => ?_) (fun c => ?_)
      · have h := h.1 c
        refine g_bipush X (v := (7 : Int32)) dDI_markFault_108 (by decide) ?_
        refine g_istore_n X (L' := [(1, .int (7 : Int32)), (0, .ref (base + 33))]) dDI_markFault_110 rfl (Nat.le_of_ble_eq_true rfl) rfl ?_
        refine g_sub (L' := [(0, .ref (base + 33)), (1, .int (7 : Int32))]) [1, 0] rfl ?_
        obtain ⟨n9, h⟩ := h
        exact r_111 n9 (7 : Int32) M h
      · have h := h.2 c
        refine g_aload_n X dDI_markFault_78 rfl 0 rfl ?_
        refine g_getr X hK.1 fw_DI_27 ly_33 rfl dDI_markFault_79 ?_
        refine g_iload_n X dDI_markFault_82 rfl 1 rfl ?_
        refine g_callVN X hK gTs_ok ly_17 rfl mw_FB_u1 nw_669 mi_FB_u1 ms_FB_u1 (As := [.int v1]) rfl ⟨(Nat.le_of_ble_eq_true rfl), (Nat.le_of_ble_eq_true rfl), Nat.le_refl _, Nat.le_refl _⟩ (m_FB_u1 h) (rest := []) rfl (Nat.le_of_ble_eq_true rfl) dDI_markFault_83 (gk_i (fun r14 M15 h => ?_))
        refine g_iconst X (v := (1 : Int32)) dDI_markFault_86 (by decide) ?_
        refine g_icmp_eq X dDI_markFault_87 (fun c => ?_) (fun c => ?_)
        · have h := h.1 c
          obtain ⟨x16, ex16⟩ : ∃ z : Int32, z = v1 + (1 : Int32) := ⟨_, rfl⟩
          have h := h x16 ex16
          refine g_iinc X (L' := [(1, .int x16), (0, .ref (base + 33))]) (k := 1) dDI_markFault_102 rfl (v := x16) (by rw [ex16]; rfl) (Nat.le_of_ble_eq_true rfl) rfl ?_
          refine g_goto X dDI_markFault_105 ?_
          refine g_sub (L' := [(0, .ref (base + 33)), (1, .int x16)]) [1, 0] rfl ?_
          exact ih x16 M15 h
        · have h := h.2 c
          refine g_aload_n X dDI_markFault_90 rfl 0 rfl ?_
          refine g_getr X hK.1 fw_DI_31 ly_33 rfl dDI_markFault_91 ?_
          refine g_iload_n X dDI_markFault_94 rfl 1 rfl ?_
          refine g_iconst X (v := (1 : Int32)) dDI_markFault_95 (by decide) ?_
          refine g_isub X dDI_markFault_96 ?_
          refine g_iload_n X dDI_markFault_97 rfl 1 rfl ?_
          refine g_callVN X hK gTs_ok ly_32 rfl mw_FI_tell nw_664 mi_FI_tell ms_FI_tell (As := [.int (v1 - (1 : Int32)), .int v1]) rfl ⟨(Nat.le_of_ble_eq_true rfl), (Nat.le_of_ble_eq_true rfl), Nat.le_refl _, Nat.le_refl _⟩ (m_FI_tell h) (rest := []) rfl (Nat.le_of_ble_eq_true rfl) dDI_markFault_98 (gk_i (fun r17 M18 h => ?_))
          exact g_iret X hr hlk dDI_markFault_101 ⟨_, rfl, h⟩
  have r_30 : ∀ (n : Nat) (v1 : Int32) (M : gMem), wl_DI_markFault_30 post n v1 M → GMx D ta base p l e 1 22 s m [.ref (base + 33)] below meth c (gPi post) 2 30 [(0, .ref (base + 33)), (1, .int v1)] [] M := by
    intro n
    induction n with
    | zero => exact fun _ M h => h.elim
    | succ n ih =>
      intro v1 M h
      refine g_iload_n X dDI_markFault_30 rfl 1 rfl ?_
      refine g_getsN X hK (j := 2) rfl nw_668 dDI_markFault_31 ?_
      refine g_tlen X hK (j := 2) rfl (v := (4 : Int32)) (by decide) dDI_markFault_34 ?_
      refine g_icmp_ge X dDI_markFault_35 (fun c => ?_) (fun c => ?_)
      · have h := h.1 c
        refine g_iconst X (v := (4 : Int32)) dDI_markFault_70 (by decide) ?_
        refine g_istore_n X (L' := [(1, .int (4 : Int32)), (0, .ref (base + 33))]) dDI_markFault_71 rfl (Nat.le_of_ble_eq_true rfl) rfl ?_
        refine g_sub (L' := [(0, .ref (base + 33)), (1, .int (4 : Int32))]) [1, 0] rfl ?_
        obtain ⟨n9, h⟩ := h
        exact r_72 n9 (4 : Int32) M h
      · have h := h.2 c
        refine g_aload_n X dDI_markFault_38 rfl 0 rfl ?_
        refine g_getr X hK.1 fw_DI_27 ly_33 rfl dDI_markFault_39 ?_
        refine g_iload_n X dDI_markFault_42 rfl 1 rfl ?_
        refine g_callVN X hK gTs_ok ly_17 rfl mw_FB_u1 nw_669 mi_FB_u1 ms_FB_u1 (As := [.int v1]) rfl ⟨(Nat.le_of_ble_eq_true rfl), (Nat.le_of_ble_eq_true rfl), Nat.le_refl _, Nat.le_refl _⟩ (m_FB_u1 h) (rest := []) rfl (Nat.le_of_ble_eq_true rfl) dDI_markFault_43 (gk_i (fun r19 M20 h => ?_))
        refine g_getsN X hK (j := 2) rfl nw_668 dDI_markFault_46 ?_
        refine g_iload_n X dDI_markFault_49 rfl 1 rfl ?_
        obtain ⟨hi, h⟩ := h
        refine g_tald X hK (j := 2) rfl rfl hi dDI_markFault_50 ?_
        refine g_icmp_eq X dDI_markFault_51 (fun c => ?_) (fun c => ?_)
        · have h := h.1 c
          obtain ⟨x21, ex21⟩ : ∃ z : Int32, z = v1 + (1 : Int32) := ⟨_, rfl⟩
          have h := h x21 ex21
          refine g_iinc X (L' := [(1, .int x21), (0, .ref (base + 33))]) (k := 1) dDI_markFault_64 rfl (v := x21) (by rw [ex21]; rfl) (Nat.le_of_ble_eq_true rfl) rfl ?_
          refine g_goto X dDI_markFault_67 ?_
          refine g_sub (L' := [(0, .ref (base + 33)), (1, .int x21)]) [1, 0] rfl ?_
          exact ih x21 M20 h
        · have h := h.2 c
          refine g_aload_n X dDI_markFault_54 rfl 0 rfl ?_
          refine g_getr X hK.1 fw_DI_31 ly_33 rfl dDI_markFault_55 ?_
          refine g_iconst X (v := (2 : Int32)) dDI_markFault_58 (by decide) ?_
          refine g_iload_n X dDI_markFault_59 rfl 1 rfl ?_
          refine g_callVN X hK gTs_ok ly_32 rfl mw_FI_tell nw_664 mi_FI_tell ms_FI_tell (As := [.int (2 : Int32), .int v1]) rfl ⟨(Nat.le_of_ble_eq_true rfl), (Nat.le_of_ble_eq_true rfl), Nat.le_refl _, Nat.le_refl _⟩ (m_FI_tell h) (rest := []) rfl (Nat.le_of_ble_eq_true rfl) dDI_markFault_60 (gk_i (fun r22 M23 h => ?_))
          exact g_iret X hr hlk dDI_markFault_63 ⟨_, rfl, h⟩
  refine g_args (L' := [(0, .ref (base + 33))]) rfl ?_
  unfold wp_DI_markFault at h
  refine g_aload_n X dDI_markFault_0 rfl 0 rfl ?_
  refine g_getr X hK.1 fw_DI_27 ly_33 rfl dDI_markFault_1 ?_
  refine g_getiN X hK.1 (gNw_of hK) fw_DI_85 ly_17 rfl dDI_markFault_4 ?_
  refine g_bipush X (v := (52 : Int32)) dDI_markFault_7 (by decide) ?_
  refine g_icmp_ge X dDI_markFault_9 (fun c => ?_) (fun c => ?_)
  · have h := h.1 c
    refine g_iconst X (v := (0 : Int32)) dDI_markFault_28 (by decide) ?_
    refine g_istore_n X (L' := [(1, .int (0 : Int32)), (0, .ref (base + 33))]) dDI_markFault_29 rfl (Nat.le_of_ble_eq_true rfl) rfl ?_
    refine g_sub (L' := [(0, .ref (base + 33)), (1, .int (0 : Int32))]) [1, 0] rfl ?_
    obtain ⟨n9, h⟩ := h
    exact r_30 n9 (0 : Int32) M h
  · have h := h.2 c
    refine g_aload_n X dDI_markFault_12 rfl 0 rfl ?_
    refine g_getr X hK.1 fw_DI_31 ly_33 rfl dDI_markFault_13 ?_
    refine g_iconst X (v := (1 : Int32)) dDI_markFault_16 (by decide) ?_
    refine g_aload_n X dDI_markFault_17 rfl 0 rfl ?_
    refine g_getr X hK.1 fw_DI_27 ly_33 rfl dDI_markFault_18 ?_
    refine g_getiN X hK.1 (gNw_of hK) fw_DI_85 ly_17 rfl dDI_markFault_21 ?_
    refine g_callVN X hK gTs_ok ly_32 rfl mw_FI_tell nw_664 mi_FI_tell ms_FI_tell (As := [.int (1 : Int32), .int (M 17 1)]) rfl ⟨(Nat.le_of_ble_eq_true rfl), (Nat.le_of_ble_eq_true rfl), Nat.le_refl _, Nat.le_refl _⟩ (m_FI_tell h) (rest := []) rfl (Nat.le_of_ble_eq_true rfl) dDI_markFault_24 (gk_i (fun r24 M25 h => ?_))
    exact g_iret X hr hlk dDI_markFault_27 ⟨_, rfl, h⟩
set_option maxRecDepth 100000 in
set_option maxHeartbeats 4000000 in
theorem m_FB_u4 {l : Launch} {D : va_G} {ta : Nat → ClassId} {base : Nat} {sa : Nat → Nat} {post : Int64 → gMem → Prop} {a0 : Int32} {M : gMem} (h : wp_FB_u4 post a0 M) : GC gLay gCl D ta base gNw sa gTabs gTs l y_FB_u4 b_FB_u4 4 (some .long) 0 0 [.ref (base + 17), .int a0] M (gPl post) := by
  refine GC.of (own := "ObjectFile$FileBytes") pn_FB rfl (Nat.le_of_ble_eq_true rfl) ?_
  intro p e s m below meth c X hK hr hlk
  refine g_args (L' := [(0, .ref (base + 17)), (1, .int a0)]) rfl ?_
  unfold wp_FB_u4 at h
  refine g_iload_n X dFB_u4_0 rfl 1 rfl ?_
  refine g_if_lt X dFB_u4_1 (fun c => ?_) (fun c => ?_)
  · have h := h.1 c
    refine g_lconst X (v := (0 : Int64)) dFB_u4_14 (by decide) ?_
    exact g_lret X hr hlk dFB_u4_15 ⟨_, rfl, h⟩
  · have h := h.2 c
    refine g_iload_n X dFB_u4_4 rfl 1 rfl ?_
    refine g_aload_n X dFB_u4_5 rfl 0 rfl ?_
    refine g_geti X hK.1 fw_FB_15 ly_17 rfl dFB_u4_6 ?_
    refine g_iconst X (v := (3 : Int32)) dFB_u4_9 (by decide) ?_
    refine g_isub X dFB_u4_10 ?_
    refine g_icmp_lt X dFB_u4_11 (fun c => ?_) (fun c => ?_)
    · have h := h.1 c
      refine g_aload_n X dFB_u4_16 rfl 0 rfl ?_
      refine g_getr X hK.1 fw_FB_9 ly_17 rfl dFB_u4_17 ?_
      refine g_iload_n X dFB_u4_20 rfl 1 rfl ?_
      obtain ⟨hi, h⟩ := h
      refine g_bald X hK.1 ly_18 hi dFB_u4_21 ?_
      refine g_sipush X (v := (255 : Int32)) dFB_u4_22 (by decide) ?_
      refine g_iand X dFB_u4_25 ?_
      refine g_aload_n X dFB_u4_26 rfl 0 rfl ?_
      refine g_getr X hK.1 fw_FB_9 ly_17 rfl dFB_u4_27 ?_
      refine g_iload_n X dFB_u4_30 rfl 1 rfl ?_
      refine g_iconst X (v := (1 : Int32)) dFB_u4_31 (by decide) ?_
      refine g_iadd X dFB_u4_32 ?_
      obtain ⟨hi, h⟩ := h
      refine g_bald X hK.1 ly_18 hi dFB_u4_33 ?_
      refine g_sipush X (v := (255 : Int32)) dFB_u4_34 (by decide) ?_
      refine g_iand X dFB_u4_37 ?_
      refine g_bipush X (v := (8 : Int32)) dFB_u4_38 (by decide) ?_
      refine g_ishl X dFB_u4_40 ?_
      refine g_ior X dFB_u4_41 ?_
      refine g_topi (fun x1 ex1 => ?_)
      have h := h x1 ex1
      refine g_istore_n X (L' := [(2, .int x1), (0, .ref (base + 17)), (1, .int a0)]) dFB_u4_42 rfl (Nat.le_of_ble_eq_true rfl) rfl ?_
      refine g_aload_n X dFB_u4_43 rfl 1 rfl ?_
      refine g_getr X hK.1 fw_FB_9 ly_17 rfl dFB_u4_44 ?_
      refine g_iload_n X dFB_u4_47 rfl 2 rfl ?_
      refine g_iconst X (v := (2 : Int32)) dFB_u4_48 (by decide) ?_
      refine g_iadd X dFB_u4_49 ?_
      obtain ⟨hi, h⟩ := h
      refine g_bald X hK.1 ly_18 hi dFB_u4_50 ?_
      refine g_sipush X (v := (255 : Int32)) dFB_u4_51 (by decide) ?_
      refine g_iand X dFB_u4_54 ?_
      refine g_aload_n X dFB_u4_55 rfl 1 rfl ?_
      refine g_getr X hK.1 fw_FB_9 ly_17 rfl dFB_u4_56 ?_
      refine g_iload_n X dFB_u4_59 rfl 2 rfl ?_
      refine g_iconst X (v := (3 : Int32)) dFB_u4_60 (by decide) ?_
      refine g_iadd X dFB_u4_61 ?_
      obtain ⟨hi, h⟩ := h
      refine g_bald X hK.1 ly_18 hi dFB_u4_62 ?_
      refine g_sipush X (v := (255 : Int32)) dFB_u4_63 (by decide) ?_
      refine g_iand X dFB_u4_66 ?_
      refine g_bipush X (v := (8 : Int32)) dFB_u4_67 (by decide) ?_
      refine g_ishl X dFB_u4_69 ?_
      refine g_ior X dFB_u4_70 ?_
      refine g_topi (fun x2 ex2 => ?_)
      have h := h x2 ex2
      refine g_istore_n X (L' := [(3, .int x2), (2, .int x1), (0, .ref (base + 17)), (1, .int a0)]) dFB_u4_71 rfl (Nat.le_of_ble_eq_true rfl) rfl ?_
      refine g_iload_n X dFB_u4_72 rfl 0 rfl ?_
      refine g_i2l X dFB_u4_73 rfl ?_
      refine g_bipush X (v := (16 : Int32)) dFB_u4_74 (by decide) ?_
      refine g_lshl X dFB_u4_76 rfl ?_
      refine g_iload_n X dFB_u4_77 rfl 1 rfl ?_
      refine g_i2l X dFB_u4_78 rfl ?_
      refine g_lor X dFB_u4_79 ?_
      exact g_lret X hr hlk dFB_u4_80 ⟨_, rfl, h⟩
    · have h := h.2 c
      refine g_lconst X (v := (0 : Int64)) dFB_u4_14 (by decide) ?_
      exact g_lret X hr hlk dFB_u4_15 ⟨_, rfl, h⟩
set_option maxRecDepth 100000 in
set_option maxHeartbeats 4000000 in
theorem m_DI_wrongEntryCount {l : Launch} {D : va_G} {ta : Nat → ClassId} {base : Nat} {sa : Nat → Nat} {post : Int32 → gMem → Prop} {M : gMem} (h : wp_DI_wrongEntryCount post M) : GC gLay gCl D ta base gNw sa gTabs gTs l y_DI_wrongEntryCount b_DI_wrongEntryCount 3 (some .int) 1 21 [.ref (base + 33)] M (gPi post) := by
  refine GC.of (own := "ObjectFile$Directory") pn_DI rfl (Nat.le_of_ble_eq_true rfl) ?_
  intro p e s m below meth c X hK hr hlk
  refine g_args (L' := [(0, .ref (base + 33))]) rfl ?_
  unfold wp_DI_wrongEntryCount at h
  refine g_aload_n X dDI_wrongEntryCount_0 rfl 0 rfl ?_
  refine g_getr X hK.1 fw_DI_27 ly_33 rfl dDI_wrongEntryCount_1 ?_
  refine g_bipush X (v := (48 : Int32)) dDI_wrongEntryCount_4 (by decide) ?_
  refine g_callVN X hK gTs_ok ly_17 rfl mw_FB_u2 nw_670 mi_FB_u2 ms_FB_u2 (As := [.int (48 : Int32)]) rfl ⟨(Nat.le_of_ble_eq_true rfl), (Nat.le_of_ble_eq_true rfl), Nat.le_refl _, Nat.le_refl _⟩ (m_FB_u2 h) (rest := []) rfl (Nat.le_of_ble_eq_true rfl) dDI_wrongEntryCount_6 (gk_i (fun r1 M2 h => ?_))
  refine g_istore_n X (L' := [(1, .int r1), (0, .ref (base + 33))]) dDI_wrongEntryCount_9 rfl (Nat.le_of_ble_eq_true rfl) rfl ?_
  refine g_iload_n X dDI_wrongEntryCount_10 rfl 0 rfl ?_
  refine g_iconst X (v := (1 : Int32)) dDI_wrongEntryCount_11 (by decide) ?_
  refine g_icmp_lt X dDI_wrongEntryCount_12 (fun c => ?_) (fun c => ?_)
  · have h := h.1 c
    refine g_bipush X (v := (48 : Int32)) dDI_wrongEntryCount_21 (by decide) ?_
    exact g_iret X hr hlk dDI_wrongEntryCount_23 ⟨_, rfl, h⟩
  · have h := h.2 c
    refine g_iload_n X dDI_wrongEntryCount_15 rfl 0 rfl ?_
    refine g_bipush X (v := (16 : Int32)) dDI_wrongEntryCount_16 (by decide) ?_
    refine g_icmp_le X dDI_wrongEntryCount_18 (fun c => ?_) (fun c => ?_)
    · have h := h.1 c
      refine g_aload_n X dDI_wrongEntryCount_24 rfl 1 rfl ?_
      refine g_getr X hK.1 fw_DI_27 ly_33 rfl dDI_wrongEntryCount_25 ?_
      refine g_bipush X (v := (50 : Int32)) dDI_wrongEntryCount_28 (by decide) ?_
      refine g_callVN X hK gTs_ok ly_17 rfl mw_FB_u2 nw_670 mi_FB_u2 ms_FB_u2 (As := [.int (50 : Int32)]) rfl ⟨(Nat.le_of_ble_eq_true rfl), (Nat.le_of_ble_eq_true rfl), Nat.le_refl _, Nat.le_refl _⟩ (m_FB_u2 h) (rest := []) rfl (Nat.le_of_ble_eq_true rfl) dDI_wrongEntryCount_30 (gk_i (fun r3 M4 h => ?_))
      refine g_istore_n X (L' := [(2, .int r3), (1, .int r1), (0, .ref (base + 33))]) dDI_wrongEntryCount_33 rfl (Nat.le_of_ble_eq_true rfl) rfl ?_
      refine g_iload_n X dDI_wrongEntryCount_34 rfl 0 rfl ?_
      refine g_iconst X (v := (1 : Int32)) dDI_wrongEntryCount_35 (by decide) ?_
      refine g_icmp_lt X dDI_wrongEntryCount_36 (fun c => ?_) (fun c => ?_)
      · have h := h.1 c
        refine g_bipush X (v := (50 : Int32)) dDI_wrongEntryCount_44 (by decide) ?_
        refine g_goto X dDI_wrongEntryCount_46 ?_
        exact g_iret X hr hlk dDI_wrongEntryCount_50 ⟨_, rfl, h⟩
      · have h := h.2 c
        refine g_iload_n X dDI_wrongEntryCount_39 rfl 0 rfl ?_
        refine g_iload_n X dDI_wrongEntryCount_40 rfl 1 rfl ?_
        refine g_icmp_lt X dDI_wrongEntryCount_41 (fun c => ?_) (fun c => ?_)
        · have h := h.1 c
          refine g_iconst X (v := (-1 : Int32)) dDI_wrongEntryCount_49 (by decide) ?_
          exact g_iret X hr hlk dDI_wrongEntryCount_50 ⟨_, rfl, h⟩
        · have h := h.2 c
          refine g_bipush X (v := (50 : Int32)) dDI_wrongEntryCount_44 (by decide) ?_
          refine g_goto X dDI_wrongEntryCount_46 ?_
          exact g_iret X hr hlk dDI_wrongEntryCount_50 ⟨_, rfl, h⟩
    · have h := h.2 c
      refine g_bipush X (v := (48 : Int32)) dDI_wrongEntryCount_21 (by decide) ?_
      exact g_iret X hr hlk dDI_wrongEntryCount_23 ⟨_, rfl, h⟩
set_option maxRecDepth 100000 in
set_option maxHeartbeats 4000000 in
theorem m_DI_wrongHeaderNumber {l : Launch} {D : va_G} {ta : Nat → ClassId} {base : Nat} {sa : Nat → Nat} {post : Int32 → gMem → Prop} {M : gMem} (h : wp_DI_wrongHeaderNumber post M) : GC gLay gCl D ta base gNw sa gTabs gTs l y_DI_wrongHeaderNumber b_DI_wrongHeaderNumber 1 (some .int) 2 43 [.ref (base + 33)] M (gPi post) := by
  refine GC.of (own := "ObjectFile$Directory") pn_DI rfl (Nat.le_of_ble_eq_true rfl) ?_
  intro p e s m below meth c X hK hr hlk
  refine g_args (L' := [(0, .ref (base + 33))]) rfl ?_
  unfold wp_DI_wrongHeaderNumber at h
  refine g_aload_n X dDI_wrongHeaderNumber_0 rfl 0 rfl ?_
  refine g_getr X hK.1 fw_DI_27 ly_33 rfl dDI_wrongHeaderNumber_1 ?_
  refine g_bipush X (v := (20 : Int32)) dDI_wrongHeaderNumber_4 (by decide) ?_
  refine g_callVN X hK gTs_ok ly_17 rfl mw_FB_u4 nw_682 mi_FB_u4 ms_FB_u4 (As := [.int (20 : Int32)]) rfl ⟨(Nat.le_of_ble_eq_true rfl), (Nat.le_of_ble_eq_true rfl), Nat.le_refl _, Nat.le_refl _⟩ (m_FB_u4 h) (rest := []) rfl (Nat.le_of_ble_eq_true rfl) dDI_wrongHeaderNumber_6 (gk_l (fun r1 M2 h => ?_))
  refine g_lconst X (v := (1 : Int64)) dDI_wrongHeaderNumber_9 (by decide) ?_
  refine g_lif_eq X dDI_wrongHeaderNumber_10 dDI_wrongHeaderNumber_11 (fun c => ?_) (fun c => ?_)
  · have h := h.1 c
    refine g_aload_n X dDI_wrongHeaderNumber_17 rfl 0 rfl ?_
    refine g_getr X hK.1 fw_DI_27 ly_33 rfl dDI_wrongHeaderNumber_18 ?_
    refine g_bipush X (v := (24 : Int32)) dDI_wrongHeaderNumber_21 (by decide) ?_
    refine g_callVN X hK gTs_ok ly_17 rfl mw_FB_u4 nw_682 mi_FB_u4 ms_FB_u4 (As := [.int (24 : Int32)]) rfl ⟨(Nat.le_of_ble_eq_true rfl), (Nat.le_of_ble_eq_true rfl), Nat.le_refl _, Nat.le_refl _⟩ (m_FB_u4 h) (rest := []) rfl (Nat.le_of_ble_eq_true rfl) dDI_wrongHeaderNumber_23 (gk_l (fun r3 M4 h => ?_))
    refine g_lconst X (v := (0 : Int64)) dDI_wrongHeaderNumber_26 (by decide) ?_
    refine g_lif_eq X dDI_wrongHeaderNumber_27 dDI_wrongHeaderNumber_28 (fun c => ?_) (fun c => ?_)
    · have h := h.1 c
      refine g_aload_n X dDI_wrongHeaderNumber_34 rfl 0 rfl ?_
      refine g_getr X hK.1 fw_DI_27 ly_33 rfl dDI_wrongHeaderNumber_35 ?_
      refine g_bipush X (v := (28 : Int32)) dDI_wrongHeaderNumber_38 (by decide) ?_
      refine g_callVN X hK gTs_ok ly_17 rfl mw_FB_u4 nw_682 mi_FB_u4 ms_FB_u4 (As := [.int (28 : Int32)]) rfl ⟨(Nat.le_of_ble_eq_true rfl), (Nat.le_of_ble_eq_true rfl), Nat.le_refl _, Nat.le_refl _⟩ (m_FB_u4 h) (rest := []) rfl (Nat.le_of_ble_eq_true rfl) dDI_wrongHeaderNumber_40 (gk_l (fun r5 M6 h => ?_))
      refine g_lconst X (v := (0 : Int64)) dDI_wrongHeaderNumber_43 (by decide) ?_
      refine g_lif_eq X dDI_wrongHeaderNumber_44 dDI_wrongHeaderNumber_45 (fun c => ?_) (fun c => ?_)
      · have h := h.1 c
        refine g_aload_n X dDI_wrongHeaderNumber_51 rfl 0 rfl ?_
        refine g_getr X hK.1 fw_DI_27 ly_33 rfl dDI_wrongHeaderNumber_52 ?_
        refine g_bipush X (v := (32 : Int32)) dDI_wrongHeaderNumber_55 (by decide) ?_
        refine g_callVN X hK gTs_ok ly_17 rfl mw_FB_u4 nw_682 mi_FB_u4 ms_FB_u4 (As := [.int (32 : Int32)]) rfl ⟨(Nat.le_of_ble_eq_true rfl), (Nat.le_of_ble_eq_true rfl), Nat.le_refl _, Nat.le_refl _⟩ (m_FB_u4 h) (rest := []) rfl (Nat.le_of_ble_eq_true rfl) dDI_wrongHeaderNumber_57 (gk_l (fun r7 M8 h => ?_))
        refine g_ldc2 X (v := (52 : Int64)) (tw_686) dDI_wrongHeaderNumber_60 ?_
        refine g_lif_lt X dDI_wrongHeaderNumber_63 dDI_wrongHeaderNumber_64 (fun c => ?_) (fun c => ?_)
        · have h := h.1 c
          refine g_bipush X (v := (32 : Int32)) dDI_wrongHeaderNumber_85 (by decide) ?_
          exact g_iret X hr hlk dDI_wrongHeaderNumber_87 ⟨_, rfl, h⟩
        · have h := h.2 c
          refine g_aload_n X dDI_wrongHeaderNumber_67 rfl 0 rfl ?_
          refine g_getr X hK.1 fw_DI_27 ly_33 rfl dDI_wrongHeaderNumber_68 ?_
          refine g_bipush X (v := (32 : Int32)) dDI_wrongHeaderNumber_71 (by decide) ?_
          refine g_callVN X hK gTs_ok ly_17 rfl mw_FB_u4 nw_682 mi_FB_u4 ms_FB_u4 (As := [.int (32 : Int32)]) rfl ⟨(Nat.le_of_ble_eq_true rfl), (Nat.le_of_ble_eq_true rfl), Nat.le_refl _, Nat.le_refl _⟩ (m_FB_u4 h) (rest := []) rfl (Nat.le_of_ble_eq_true rfl) dDI_wrongHeaderNumber_73 (gk_l (fun r9 M10 h => ?_))
          refine g_ldc2 X (v := (4 : Int64)) (tw_687) dDI_wrongHeaderNumber_76 ?_
          refine g_lrem X dDI_wrongHeaderNumber_79 (by decide) ?_
          refine g_lconst X (v := (0 : Int64)) dDI_wrongHeaderNumber_80 (by decide) ?_
          refine g_lif_eq X dDI_wrongHeaderNumber_81 dDI_wrongHeaderNumber_82 (fun c => ?_) (fun c => ?_)
          · have h := h.1 c
            refine g_aload_n X dDI_wrongHeaderNumber_88 rfl 0 rfl ?_
            refine g_getr X hK.1 fw_DI_27 ly_33 rfl dDI_wrongHeaderNumber_89 ?_
            refine g_bipush X (v := (36 : Int32)) dDI_wrongHeaderNumber_92 (by decide) ?_
            refine g_callVN X hK gTs_ok ly_17 rfl mw_FB_u4 nw_682 mi_FB_u4 ms_FB_u4 (As := [.int (36 : Int32)]) rfl ⟨(Nat.le_of_ble_eq_true rfl), (Nat.le_of_ble_eq_true rfl), Nat.le_refl _, Nat.le_refl _⟩ (m_FB_u4 h) (rest := []) rfl (Nat.le_of_ble_eq_true rfl) dDI_wrongHeaderNumber_94 (gk_l (fun r11 M12 h => ?_))
            refine g_lconst X (v := (1 : Int64)) dDI_wrongHeaderNumber_97 (by decide) ?_
            refine g_lif_le X dDI_wrongHeaderNumber_98 dDI_wrongHeaderNumber_99 (fun c => ?_) (fun c => ?_)
            · have h := h.1 c
              refine g_aload_n X dDI_wrongHeaderNumber_105 rfl 0 rfl ?_
              refine g_getr X hK.1 fw_DI_27 ly_33 rfl dDI_wrongHeaderNumber_106 ?_
              refine g_bipush X (v := (40 : Int32)) dDI_wrongHeaderNumber_109 (by decide) ?_
              refine g_callVN X hK gTs_ok ly_17 rfl mw_FB_u2 nw_670 mi_FB_u2 ms_FB_u2 (As := [.int (40 : Int32)]) rfl ⟨(Nat.le_of_ble_eq_true rfl), (Nat.le_of_ble_eq_true rfl), Nat.le_refl _, Nat.le_refl _⟩ (m_FB_u2 h) (rest := []) rfl (Nat.le_of_ble_eq_true rfl) dDI_wrongHeaderNumber_111 (gk_i (fun r13 M14 h => ?_))
              refine g_bipush X (v := (52 : Int32)) dDI_wrongHeaderNumber_114 (by decide) ?_
              refine g_icmp_eq X dDI_wrongHeaderNumber_116 (fun c => ?_) (fun c => ?_)
              · have h := h.1 c
                refine g_aload_n X dDI_wrongHeaderNumber_122 rfl 0 rfl ?_
                refine g_getr X hK.1 fw_DI_27 ly_33 rfl dDI_wrongHeaderNumber_123 ?_
                refine g_bipush X (v := (42 : Int32)) dDI_wrongHeaderNumber_126 (by decide) ?_
                refine g_callVN X hK gTs_ok ly_17 rfl mw_FB_u2 nw_670 mi_FB_u2 ms_FB_u2 (As := [.int (42 : Int32)]) rfl ⟨(Nat.le_of_ble_eq_true rfl), (Nat.le_of_ble_eq_true rfl), Nat.le_refl _, Nat.le_refl _⟩ (m_FB_u2 h) (rest := []) rfl (Nat.le_of_ble_eq_true rfl) dDI_wrongHeaderNumber_128 (gk_i (fun r15 M16 h => ?_))
                refine g_if_eq X dDI_wrongHeaderNumber_131 (fun c => ?_) (fun c => ?_)
                · have h := h.1 c
                  refine g_aload_n X dDI_wrongHeaderNumber_137 rfl 0 rfl ?_
                  refine g_getr X hK.1 fw_DI_27 ly_33 rfl dDI_wrongHeaderNumber_138 ?_
                  refine g_bipush X (v := (44 : Int32)) dDI_wrongHeaderNumber_141 (by decide) ?_
                  refine g_callVN X hK gTs_ok ly_17 rfl mw_FB_u2 nw_670 mi_FB_u2 ms_FB_u2 (As := [.int (44 : Int32)]) rfl ⟨(Nat.le_of_ble_eq_true rfl), (Nat.le_of_ble_eq_true rfl), Nat.le_refl _, Nat.le_refl _⟩ (m_FB_u2 h) (rest := []) rfl (Nat.le_of_ble_eq_true rfl) dDI_wrongHeaderNumber_143 (gk_i (fun r17 M18 h => ?_))
                  refine g_if_eq X dDI_wrongHeaderNumber_146 (fun c => ?_) (fun c => ?_)
                  · have h := h.1 c
                    refine g_aload_n X dDI_wrongHeaderNumber_152 rfl 0 rfl ?_
                    refine g_getr X hK.1 fw_DI_27 ly_33 rfl dDI_wrongHeaderNumber_153 ?_
                    refine g_bipush X (v := (46 : Int32)) dDI_wrongHeaderNumber_156 (by decide) ?_
                    refine g_callVN X hK gTs_ok ly_17 rfl mw_FB_u2 nw_670 mi_FB_u2 ms_FB_u2 (As := [.int (46 : Int32)]) rfl ⟨(Nat.le_of_ble_eq_true rfl), (Nat.le_of_ble_eq_true rfl), Nat.le_refl _, Nat.le_refl _⟩ (m_FB_u2 h) (rest := []) rfl (Nat.le_of_ble_eq_true rfl) dDI_wrongHeaderNumber_158 (gk_i (fun r19 M20 h => ?_))
                    refine g_bipush X (v := (40 : Int32)) dDI_wrongHeaderNumber_161 (by decide) ?_
                    refine g_icmp_eq X dDI_wrongHeaderNumber_163 (fun c => ?_) (fun c => ?_)
                    · have h := h.1 c
                      refine g_aload_n X dDI_wrongHeaderNumber_169 rfl 0 rfl ?_
                      refine g_callV X hK gTs_ok ly_33 rfl mw_DI_wrongEntryCount tw_688 mi_DI_wrongEntryCount ms_DI_wrongEntryCount (As := []) rfl ⟨(Nat.le_of_ble_eq_true rfl), (Nat.le_of_ble_eq_true rfl), Nat.le_refl _, Nat.le_refl _⟩ (m_DI_wrongEntryCount h) (rest := []) rfl (Nat.le_of_ble_eq_true rfl) dDI_wrongHeaderNumber_170 (gk_i (fun r21 M22 h => ?_))
                      exact g_iret X hr hlk dDI_wrongHeaderNumber_173 ⟨_, rfl, h⟩
                    · have h := h.2 c
                      refine g_bipush X (v := (46 : Int32)) dDI_wrongHeaderNumber_166 (by decide) ?_
                      exact g_iret X hr hlk dDI_wrongHeaderNumber_168 ⟨_, rfl, h⟩
                  · have h := h.2 c
                    refine g_bipush X (v := (44 : Int32)) dDI_wrongHeaderNumber_149 (by decide) ?_
                    exact g_iret X hr hlk dDI_wrongHeaderNumber_151 ⟨_, rfl, h⟩
                · have h := h.2 c
                  refine g_bipush X (v := (42 : Int32)) dDI_wrongHeaderNumber_134 (by decide) ?_
                  exact g_iret X hr hlk dDI_wrongHeaderNumber_136 ⟨_, rfl, h⟩
              · have h := h.2 c
                refine g_bipush X (v := (40 : Int32)) dDI_wrongHeaderNumber_119 (by decide) ?_
                exact g_iret X hr hlk dDI_wrongHeaderNumber_121 ⟨_, rfl, h⟩
            · have h := h.2 c
              refine g_bipush X (v := (36 : Int32)) dDI_wrongHeaderNumber_102 (by decide) ?_
              exact g_iret X hr hlk dDI_wrongHeaderNumber_104 ⟨_, rfl, h⟩
          · have h := h.2 c
            refine g_bipush X (v := (32 : Int32)) dDI_wrongHeaderNumber_85 (by decide) ?_
            exact g_iret X hr hlk dDI_wrongHeaderNumber_87 ⟨_, rfl, h⟩
      · have h := h.2 c
        refine g_bipush X (v := (28 : Int32)) dDI_wrongHeaderNumber_48 (by decide) ?_
        exact g_iret X hr hlk dDI_wrongHeaderNumber_50 ⟨_, rfl, h⟩
    · have h := h.2 c
      refine g_bipush X (v := (24 : Int32)) dDI_wrongHeaderNumber_31 (by decide) ?_
      exact g_iret X hr hlk dDI_wrongHeaderNumber_33 ⟨_, rfl, h⟩
  · have h := h.2 c
    refine g_bipush X (v := (20 : Int32)) dDI_wrongHeaderNumber_14 (by decide) ?_
    exact g_iret X hr hlk dDI_wrongHeaderNumber_16 ⟨_, rfl, h⟩
set_option maxRecDepth 100000 in
set_option maxHeartbeats 4000000 in
theorem m_DI_headerFault {l : Launch} {D : va_G} {ta : Nat → ClassId} {base : Nat} {sa : Nat → Nat} {post : Int32 → gMem → Prop} {M : gMem} (h : wp_DI_headerFault post M) : GC gLay gCl D ta base gNw sa gTabs gTs l y_DI_headerFault b_DI_headerFault 2 (some .int) 3 63 [.ref (base + 33)] M (gPi post) := by
  refine GC.of (own := "ObjectFile$Directory") pn_DI rfl (Nat.le_of_ble_eq_true rfl) ?_
  intro p e s m below meth c X hK hr hlk
  refine g_args (L' := [(0, .ref (base + 33))]) rfl ?_
  unfold wp_DI_headerFault at h
  refine g_aload_n X dDI_headerFault_0 rfl 0 rfl ?_
  refine g_callV X hK gTs_ok ly_33 rfl mw_DI_wrongHeaderNumber tw_678 mi_DI_wrongHeaderNumber ms_DI_wrongHeaderNumber (As := []) rfl ⟨(Nat.le_of_ble_eq_true rfl), (Nat.le_of_ble_eq_true rfl), Nat.le_refl _, Nat.le_refl _⟩ (m_DI_wrongHeaderNumber h) (rest := []) rfl (Nat.le_of_ble_eq_true rfl) dDI_headerFault_1 (gk_i (fun r1 M2 h => ?_))
  refine g_istore_n X (L' := [(1, .int r1), (0, .ref (base + 33))]) dDI_headerFault_4 rfl (Nat.le_of_ble_eq_true rfl) rfl ?_
  refine g_iload_n X dDI_headerFault_5 rfl 0 rfl ?_
  refine g_iconst X (v := (-1 : Int32)) dDI_headerFault_6 (by decide) ?_
  refine g_icmp_eq X dDI_headerFault_7 (fun c => ?_) (fun c => ?_)
  · have h := h.1 c
    refine g_aload_n X dDI_headerFault_21 rfl 1 rfl ?_
    refine g_aload_n X dDI_headerFault_22 rfl 1 rfl ?_
    refine g_getr X hK.1 fw_DI_27 ly_33 rfl dDI_headerFault_23 ?_
    refine g_bipush X (v := (48 : Int32)) dDI_headerFault_26 (by decide) ?_
    refine g_callVN X hK gTs_ok ly_17 rfl mw_FB_u2 nw_670 mi_FB_u2 ms_FB_u2 (As := [.int (48 : Int32)]) rfl ⟨(Nat.le_of_ble_eq_true rfl), (Nat.le_of_ble_eq_true rfl), Nat.le_refl _, Nat.le_refl _⟩ (m_FB_u2 h) (rest := [.ref (base + 33)]) rfl (Nat.le_of_ble_eq_true rfl) dDI_headerFault_28 (gk_i (fun r3 M4 h => ?_))
    refine g_puti X hK.1 fw_DI_51 pw_DI_8 ly_33 rfl dDI_headerFault_31 ?_
    refine g_topM (fun M5 eM5 => ?_)
    have h := h M5 eM5
    refine g_aload_n X dDI_headerFault_34 rfl 1 rfl ?_
    refine g_aload_n X dDI_headerFault_35 rfl 1 rfl ?_
    refine g_getr X hK.1 fw_DI_27 ly_33 rfl dDI_headerFault_36 ?_
    refine g_bipush X (v := (50 : Int32)) dDI_headerFault_39 (by decide) ?_
    refine g_callVN X hK gTs_ok ly_17 rfl mw_FB_u2 nw_670 mi_FB_u2 ms_FB_u2 (As := [.int (50 : Int32)]) rfl ⟨(Nat.le_of_ble_eq_true rfl), (Nat.le_of_ble_eq_true rfl), Nat.le_refl _, Nat.le_refl _⟩ (m_FB_u2 h) (rest := [.ref (base + 33)]) rfl (Nat.le_of_ble_eq_true rfl) dDI_headerFault_41 (gk_i (fun r6 M7 h => ?_))
    refine g_puti X hK.1 fw_DI_64 pw_DI_9 ly_33 rfl dDI_headerFault_44 ?_
    refine g_topM (fun M8 eM8 => ?_)
    have h := h M8 eM8
    refine g_aload_n X dDI_headerFault_47 rfl 1 rfl ?_
    refine g_getr X hK.1 fw_DI_27 ly_33 rfl dDI_headerFault_48 ?_
    refine g_bipush X (v := (32 : Int32)) dDI_headerFault_51 (by decide) ?_
    refine g_callVN X hK gTs_ok ly_17 rfl mw_FB_u4 nw_682 mi_FB_u4 ms_FB_u4 (As := [.int (32 : Int32)]) rfl ⟨(Nat.le_of_ble_eq_true rfl), (Nat.le_of_ble_eq_true rfl), Nat.le_refl _, Nat.le_refl _⟩ (m_FB_u4 h) (rest := []) rfl (Nat.le_of_ble_eq_true rfl) dDI_headerFault_53 (gk_l (fun r9 M10 h => ?_))
    refine g_bipush X (v := (40 : Int32)) dDI_headerFault_56 (by decide) ?_
    refine g_aload_n X dDI_headerFault_58 rfl 1 rfl ?_
    refine g_geti X hK.1 fw_DI_51 ly_33 rfl dDI_headerFault_59 ?_
    refine g_imul X dDI_headerFault_62 ?_
    refine g_i2l X dDI_headerFault_63 rfl ?_
    refine g_ladd X dDI_headerFault_64 ?_
    refine g_aload_n X dDI_headerFault_65 rfl 1 rfl ?_
    refine g_getr X hK.1 fw_DI_27 ly_33 rfl dDI_headerFault_66 ?_
    refine g_getiN X hK.1 (gNw_of hK) fw_DI_85 ly_17 rfl dDI_headerFault_69 ?_
    refine g_i2l X dDI_headerFault_72 rfl ?_
    refine g_lif_le X dDI_headerFault_73 dDI_headerFault_74 (fun c => ?_) (fun c => ?_)
    · have h := h.1 c
      refine g_aload_n X dDI_headerFault_89 rfl 1 rfl ?_
      refine g_aload_n X dDI_headerFault_90 rfl 1 rfl ?_
      refine g_getr X hK.1 fw_DI_27 ly_33 rfl dDI_headerFault_91 ?_
      refine g_bipush X (v := (32 : Int32)) dDI_headerFault_94 (by decide) ?_
      refine g_callVN X hK gTs_ok ly_17 rfl mw_FB_u4 nw_682 mi_FB_u4 ms_FB_u4 (As := [.int (32 : Int32)]) rfl ⟨(Nat.le_of_ble_eq_true rfl), (Nat.le_of_ble_eq_true rfl), Nat.le_refl _, Nat.le_refl _⟩ (m_FB_u4 h) (rest := [.ref (base + 33)]) rfl (Nat.le_of_ble_eq_true rfl) dDI_headerFault_96 (gk_l (fun r11 M12 h => ?_))
      refine g_l2i X dDI_headerFault_99 rfl ?_
      refine g_puti X hK.1 fw_DI_35 pw_DI_7 ly_33 rfl dDI_headerFault_100 ?_
      refine g_topM (fun M13 eM13 => ?_)
      have h := h M13 eM13
      refine g_iconst X (v := (0 : Int32)) dDI_headerFault_103 (by decide) ?_
      exact g_iret X hr hlk dDI_headerFault_104 ⟨_, rfl, h⟩
    · have h := h.2 c
      refine g_aload_n X dDI_headerFault_77 rfl 1 rfl ?_
      refine g_getr X hK.1 fw_DI_31 ly_33 rfl dDI_headerFault_78 ?_
      refine g_bipush X (v := (10 : Int32)) dDI_headerFault_81 (by decide) ?_
      refine g_bipush X (v := (32 : Int32)) dDI_headerFault_83 (by decide) ?_
      refine g_callVN X hK gTs_ok ly_32 rfl mw_FI_tell nw_664 mi_FI_tell ms_FI_tell (As := [.int (10 : Int32), .int (32 : Int32)]) rfl ⟨(Nat.le_of_ble_eq_true rfl), (Nat.le_of_ble_eq_true rfl), Nat.le_refl _, Nat.le_refl _⟩ (m_FI_tell h) (rest := []) rfl (Nat.le_of_ble_eq_true rfl) dDI_headerFault_85 (gk_i (fun r14 M15 h => ?_))
      exact g_iret X hr hlk dDI_headerFault_88 ⟨_, rfl, h⟩
  · have h := h.2 c
    refine g_aload_n X dDI_headerFault_10 rfl 1 rfl ?_
    refine g_getr X hK.1 fw_DI_31 ly_33 rfl dDI_headerFault_11 ?_
    refine g_bipush X (v := (9 : Int32)) dDI_headerFault_14 (by decide) ?_
    refine g_iload_n X dDI_headerFault_16 rfl 0 rfl ?_
    refine g_callVN X hK gTs_ok ly_32 rfl mw_FI_tell nw_664 mi_FI_tell ms_FI_tell (As := [.int (9 : Int32), .int r1]) rfl ⟨(Nat.le_of_ble_eq_true rfl), (Nat.le_of_ble_eq_true rfl), Nat.le_refl _, Nat.le_refl _⟩ (m_FI_tell h) (rest := []) rfl (Nat.le_of_ble_eq_true rfl) dDI_headerFault_17 (gk_i (fun r16 M17 h => ?_))
    exact g_iret X hr hlk dDI_headerFault_20 ⟨_, rfl, h⟩
set_option maxRecDepth 100000 in
set_option maxHeartbeats 4000000 in
theorem m_DI_numberOf {l : Launch} {D : va_G} {ta : Nat → ClassId} {base : Nat} {sa : Nat → Nat} {post : Int64 → gMem → Prop} {a0 : Int32} {a1 : Int32} {M : gMem} (h : wp_DI_numberOf post a0 a1 M) : GC gLay gCl D ta base gNw sa gTabs gTs l y_DI_numberOf b_DI_numberOf 3 (some .long) 1 23 [.ref (base + 33), .int a0, .int a1] M (gPl post) := by
  refine GC.of (own := "ObjectFile$Directory") pn_DI rfl (Nat.le_of_ble_eq_true rfl) ?_
  intro p e s m below meth c X hK hr hlk
  refine g_args (L' := [(0, .ref (base + 33)), (1, .int a0), (2, .int a1)]) rfl ?_
  unfold wp_DI_numberOf at h
  refine g_aload_n X dDI_numberOf_0 rfl 0 rfl ?_
  refine g_getr X hK.1 fw_DI_27 ly_33 rfl dDI_numberOf_1 ?_
  refine g_aload_n X dDI_numberOf_4 rfl 0 rfl ?_
  refine g_geti X hK.1 fw_DI_35 ly_33 rfl dDI_numberOf_5 ?_
  refine g_bipush X (v := (40 : Int32)) dDI_numberOf_8 (by decide) ?_
  refine g_iload_n X dDI_numberOf_10 rfl 1 rfl ?_
  refine g_imul X dDI_numberOf_11 ?_
  refine g_iadd X dDI_numberOf_12 ?_
  refine g_iconst X (v := (4 : Int32)) dDI_numberOf_13 (by decide) ?_
  refine g_iload_n X dDI_numberOf_14 rfl 2 rfl ?_
  refine g_imul X dDI_numberOf_15 ?_
  refine g_iadd X dDI_numberOf_16 ?_
  refine g_callVN X hK gTs_ok ly_17 rfl mw_FB_u4 nw_682 mi_FB_u4 ms_FB_u4 (As := [.int (((M 33 7) + ((40 : Int32) * a0)) + ((4 : Int32) * a1))]) rfl ⟨(Nat.le_of_ble_eq_true rfl), (Nat.le_of_ble_eq_true rfl), Nat.le_refl _, Nat.le_refl _⟩ (m_FB_u4 h) (rest := []) rfl (Nat.le_of_ble_eq_true rfl) dDI_numberOf_17 (gk_l (fun r1 M2 h => ?_))
  exact g_lret X hr hlk dDI_numberOf_20 ⟨_, rfl, h⟩
set_option maxRecDepth 100000 in
set_option maxHeartbeats 4000000 in
theorem m_DI_tellEntry {l : Launch} {D : va_G} {ta : Nat → ClassId} {base : Nat} {sa : Nat → Nat} {post : Int32 → gMem → Prop} {a0 : Int32} {a1 : Int32} {a2 : Int32} {M : gMem} (h : wp_DI_tellEntry post a0 a1 a2 M) : GC gLay gCl D ta base gNw sa gTabs gTs l y_DI_tellEntry b_DI_tellEntry 4 (some .int) 1 22 [.ref (base + 33), .int a0, .int a1, .int a2] M (gPi post) := by
  refine GC.of (own := "ObjectFile$Directory") pn_DI rfl (Nat.le_of_ble_eq_true rfl) ?_
  intro p e s m below meth c X hK hr hlk
  refine g_args (L' := [(0, .ref (base + 33)), (1, .int a0), (2, .int a1), (3, .int a2)]) rfl ?_
  unfold wp_DI_tellEntry at h
  refine g_aload_n X dDI_tellEntry_0 rfl 0 rfl ?_
  refine g_getr X hK.1 fw_DI_31 ly_33 rfl dDI_tellEntry_1 ?_
  refine g_iload_n X dDI_tellEntry_4 rfl 1 rfl ?_
  refine g_aload_n X dDI_tellEntry_5 rfl 0 rfl ?_
  refine g_geti X hK.1 fw_DI_35 ly_33 rfl dDI_tellEntry_6 ?_
  refine g_bipush X (v := (40 : Int32)) dDI_tellEntry_9 (by decide) ?_
  refine g_iload_n X dDI_tellEntry_11 rfl 2 rfl ?_
  refine g_imul X dDI_tellEntry_12 ?_
  refine g_iadd X dDI_tellEntry_13 ?_
  refine g_iconst X (v := (4 : Int32)) dDI_tellEntry_14 (by decide) ?_
  refine g_iload_n X dDI_tellEntry_15 rfl 3 rfl ?_
  refine g_imul X dDI_tellEntry_16 ?_
  refine g_iadd X dDI_tellEntry_17 ?_
  refine g_callVN X hK gTs_ok ly_32 rfl mw_FI_tell nw_664 mi_FI_tell ms_FI_tell (As := [.int a0, .int (((M 33 7) + ((40 : Int32) * a1)) + ((4 : Int32) * a2))]) rfl ⟨(Nat.le_of_ble_eq_true rfl), (Nat.le_of_ble_eq_true rfl), Nat.le_refl _, Nat.le_refl _⟩ (m_FI_tell h) (rest := []) rfl (Nat.le_of_ble_eq_true rfl) dDI_tellEntry_18 (gk_i (fun r1 M2 h => ?_))
  exact g_iret X hr hlk dDI_tellEntry_21 ⟨_, rfl, h⟩
set_option maxRecDepth 100000 in
set_option maxHeartbeats 4000000 in
theorem m_DI_sharesBytes {l : Launch} {D : va_G} {ta : Nat → ClassId} {base : Nat} {sa : Nat → Nat} {post : Bool → gMem → Prop} {a0 : Int32} {a1 : Int64} {a2 : Int64} {M : gMem} (h : wp_DI_sharesBytes post a0 a1 a2 M) : GC gLay gCl D ta base gNw sa gTabs gTs l y_DI_sharesBytes b_DI_sharesBytes 11 (some .boolean) 2 45 [.ref (base + 33), .int a0, .long a1, .long a2] M (gPz post) := by
  refine GC.of (own := "ObjectFile$Directory") pn_DI rfl (Nat.le_of_ble_eq_true rfl) ?_
  intro p e s m below meth c X hK hr hlk
  have r_74 : ∀ (k34 : Int32 → Int64 → Int64 → Int32 → gMem → Prop) (hk34 : ∀ (v1 : Int32) (v2 : Int64) (v4 : Int64) (v6 : Int32) (M : gMem), k34 v1 v2 v4 v6 M → GMx D ta base p l e 2 45 s m [.ref (base + 33), .int a0, .long a1, .long a2] below meth c (gPz post) 11 34 [(0, .ref (base + 33)), (1, .int v1), (2, .long v2), (4, .long v4), (6, .int v6)] [] M) (v1 : Int32) (v2 : Int64) (v4 : Int64) (v6 : Int32) (v7 : Int64) (s0 : Int64) (M : gMem), wj_DI_sharesBytes_74 post k34 v1 v2 v4 v6 v7 s0 M → GMx D ta base p l e 2 45 s m [.ref (base + 33), .int a0, .long a1, .long a2] below meth c (gPz post) 11 74 [(0, .ref (base + 33)), (1, .int v1), (2, .long v2), (4, .long v4), (6, .int v6), (7, .long v7)] [.long s0] M := by
    intro k34 hk34 v1 v2 v4 v6 v7 s0 M h
    unfold wj_DI_sharesBytes_74 at h
    refine g_lstore X (L' := [(9, .long s0), (0, .ref (base + 33)), (1, .int v1), (2, .long v2), (4, .long v4), (6, .int v6), (7, .long v7)]) dDI_sharesBytes_74 (Nat.le_of_ble_eq_true rfl) rfl ?_
    refine g_lload X dDI_sharesBytes_76 0 rfl ?_
    refine g_lconst X (v := (0 : Int64)) dDI_sharesBytes_78 (by decide) ?_
    refine g_lif_le X dDI_sharesBytes_79 dDI_sharesBytes_80 (fun c => ?_) (fun c => ?_)
    · have h := h.1 c
      obtain ⟨x7, ex7⟩ : ∃ z : Int32, z = v6 + (1 : Int32) := ⟨_, rfl⟩
      have h := h x7 ex7
      refine g_iinc X (L' := [(6, .int x7), (9, .long s0), (0, .ref (base + 33)), (1, .int v1), (2, .long v2), (4, .long v4), (7, .long v7)]) (k := 5) dDI_sharesBytes_103 rfl (v := x7) (by rw [ex7]; rfl) (Nat.le_of_ble_eq_true rfl) rfl ?_
      refine g_goto X dDI_sharesBytes_106 ?_
      refine g_sub (L' := [(0, .ref (base + 33)), (1, .int v1), (2, .long v2), (4, .long v4), (6, .int x7)]) [2, 3, 4, 5, 0] rfl ?_
      exact hk34 v1 v2 v4 x7 M h
    · have h := h.2 c
      refine g_lload_n X dDI_sharesBytes_83 rfl 3 rfl ?_
      refine g_lload X dDI_sharesBytes_84 6 rfl ?_
      refine g_lload X dDI_sharesBytes_86 0 rfl ?_
      refine g_ladd X dDI_sharesBytes_88 ?_
      refine g_lif_ge X dDI_sharesBytes_89 dDI_sharesBytes_90 (fun c => ?_) (fun c => ?_)
      · have h := h.1 c
        obtain ⟨x8, ex8⟩ : ∃ z : Int32, z = v6 + (1 : Int32) := ⟨_, rfl⟩
        have h := h x8 ex8
        refine g_iinc X (L' := [(6, .int x8), (9, .long s0), (0, .ref (base + 33)), (1, .int v1), (2, .long v2), (4, .long v4), (7, .long v7)]) (k := 5) dDI_sharesBytes_103 rfl (v := x8) (by rw [ex8]; rfl) (Nat.le_of_ble_eq_true rfl) rfl ?_
        refine g_goto X dDI_sharesBytes_106 ?_
        refine g_sub (L' := [(0, .ref (base + 33)), (1, .int v1), (2, .long v2), (4, .long v4), (6, .int x8)]) [2, 3, 4, 5, 0] rfl ?_
        exact hk34 v1 v2 v4 x8 M h
      · have h := h.2 c
        refine g_lload X dDI_sharesBytes_93 6 rfl ?_
        refine g_lload X dDI_sharesBytes_95 4 rfl ?_
        refine g_lif_ge X dDI_sharesBytes_97 dDI_sharesBytes_98 (fun c => ?_) (fun c => ?_)
        · have h := h.1 c
          obtain ⟨x9, ex9⟩ : ∃ z : Int32, z = v6 + (1 : Int32) := ⟨_, rfl⟩
          have h := h x9 ex9
          refine g_iinc X (L' := [(6, .int x9), (9, .long s0), (0, .ref (base + 33)), (1, .int v1), (2, .long v2), (4, .long v4), (7, .long v7)]) (k := 5) dDI_sharesBytes_103 rfl (v := x9) (by rw [ex9]; rfl) (Nat.le_of_ble_eq_true rfl) rfl ?_
          refine g_goto X dDI_sharesBytes_106 ?_
          refine g_sub (L' := [(0, .ref (base + 33)), (1, .int v1), (2, .long v2), (4, .long v4), (6, .int x9)]) [2, 3, 4, 5, 0] rfl ?_
          exact hk34 v1 v2 v4 x9 M h
        · have h := h.2 c
          refine g_iconst X (v := (1 : Int32)) dDI_sharesBytes_101 (by decide) ?_
          exact g_zret X hr hlk (by decide) dDI_sharesBytes_102 ⟨true, rfl, h⟩
  have r_34 : ∀ (n : Nat) (v1 : Int32) (v2 : Int64) (v4 : Int64) (v6 : Int32) (M : gMem), wl_DI_sharesBytes_34 post n v1 v2 v4 v6 M → GMx D ta base p l e 2 45 s m [.ref (base + 33), .int a0, .long a1, .long a2] below meth c (gPz post) 11 34 [(0, .ref (base + 33)), (1, .int v1), (2, .long v2), (4, .long v4), (6, .int v6)] [] M := by
    intro n
    induction n with
    | zero => exact fun _ _ _ _ M h => h.elim
    | succ n ih =>
      intro v1 v2 v4 v6 M h
      refine g_iload X dDI_sharesBytes_34 4 rfl ?_
      refine g_iload_n X dDI_sharesBytes_36 rfl 1 rfl ?_
      refine g_icmp_ge X dDI_sharesBytes_37 (fun c => ?_) (fun c => ?_)
      · have h := h.1 c
        refine g_iconst X (v := (0 : Int32)) dDI_sharesBytes_109 (by decide) ?_
        exact g_zret X hr hlk (by decide) dDI_sharesBytes_110 ⟨false, rfl, h⟩
      · have h := h.2 c
        refine g_aload_n X dDI_sharesBytes_40 rfl 0 rfl ?_
        refine g_iload X dDI_sharesBytes_41 4 rfl ?_
        refine g_iconst X (v := (4 : Int32)) dDI_sharesBytes_43 (by decide) ?_
        refine g_callV X hK gTs_ok ly_33 rfl mw_DI_numberOf tw_696 mi_DI_numberOf ms_DI_numberOf (As := [.int v6, .int (4 : Int32)]) rfl ⟨(Nat.le_of_ble_eq_true rfl), (Nat.le_of_ble_eq_true rfl), Nat.le_refl _, Nat.le_refl _⟩ (m_DI_numberOf h) (rest := []) rfl (Nat.le_of_ble_eq_true rfl) dDI_sharesBytes_44 (gk_l (fun r1 M2 h => ?_))
        refine g_lstore X (L' := [(7, .long r1), (0, .ref (base + 33)), (1, .int v1), (2, .long v2), (4, .long v4), (6, .int v6)]) dDI_sharesBytes_47 (Nat.le_of_ble_eq_true rfl) rfl ?_
        refine g_aload_n X dDI_sharesBytes_49 rfl 1 rfl ?_
        refine g_iload X dDI_sharesBytes_50 5 rfl ?_
        refine g_iconst X (v := (1 : Int32)) dDI_sharesBytes_52 (by decide) ?_
        refine g_callV X hK gTs_ok ly_33 rfl mw_DI_numberOf tw_696 mi_DI_numberOf ms_DI_numberOf (As := [.int v6, .int (1 : Int32)]) rfl ⟨(Nat.le_of_ble_eq_true rfl), (Nat.le_of_ble_eq_true rfl), Nat.le_refl _, Nat.le_refl _⟩ (m_DI_numberOf h) (rest := []) rfl (Nat.le_of_ble_eq_true rfl) dDI_sharesBytes_53 (gk_l (fun r3 M4 h => ?_))
        refine g_ldc2 X (v := (8 : Int64)) (tw_708) dDI_sharesBytes_56 ?_
        refine g_lif_ne X dDI_sharesBytes_59 dDI_sharesBytes_60 (fun c => ?_) (fun c => ?_)
        · have h := h.1 c
          refine g_aload_n X dDI_sharesBytes_67 rfl 1 rfl ?_
          refine g_iload X dDI_sharesBytes_68 5 rfl ?_
          refine g_iconst X (v := (5 : Int32)) dDI_sharesBytes_70 (by decide) ?_
          refine g_callV X hK gTs_ok ly_33 rfl mw_DI_numberOf tw_696 mi_DI_numberOf ms_DI_numberOf (As := [.int v6, .int (5 : Int32)]) rfl ⟨(Nat.le_of_ble_eq_true rfl), (Nat.le_of_ble_eq_true rfl), Nat.le_refl _, Nat.le_refl _⟩ (m_DI_numberOf h) (rest := []) rfl (Nat.le_of_ble_eq_true rfl) dDI_sharesBytes_71 (gk_l (fun r5 M6 h => ?_))
          refine g_sub (L' := [(0, .ref (base + 33)), (1, .int v1), (2, .long v2), (4, .long v4), (6, .int v6), (7, .long r1)]) [1, 2, 3, 4, 5, 0] rfl ?_
          exact r_74 _ (ih) v1 v2 v4 v6 r1 r5 M6 h
        · have h := h.2 c
          refine g_lconst X (v := (0 : Int64)) dDI_sharesBytes_63 (by decide) ?_
          refine g_goto X dDI_sharesBytes_64 ?_
          refine g_sub (L' := [(0, .ref (base + 33)), (1, .int v1), (2, .long v2), (4, .long v4), (6, .int v6), (7, .long r1)]) [1, 2, 3, 4, 5, 0] rfl ?_
          exact r_74 _ (ih) v1 v2 v4 v6 r1 (0 : Int64) M4 h
  refine g_args (L' := [(0, .ref (base + 33)), (1, .int a0), (2, .long a1), (4, .long a2)]) rfl ?_
  unfold wp_DI_sharesBytes at h
  refine g_lload_n X dDI_sharesBytes_0 rfl 2 rfl ?_
  refine g_aload_n X dDI_sharesBytes_1 rfl 0 rfl ?_
  refine g_geti X hK.1 fw_DI_35 ly_33 rfl dDI_sharesBytes_2 ?_
  refine g_bipush X (v := (40 : Int32)) dDI_sharesBytes_5 (by decide) ?_
  refine g_aload_n X dDI_sharesBytes_7 rfl 0 rfl ?_
  refine g_geti X hK.1 fw_DI_51 ly_33 rfl dDI_sharesBytes_8 ?_
  refine g_imul X dDI_sharesBytes_11 ?_
  refine g_iadd X dDI_sharesBytes_12 ?_
  refine g_i2l X dDI_sharesBytes_13 rfl ?_
  refine g_lif_ge X dDI_sharesBytes_14 dDI_sharesBytes_15 (fun c => ?_) (fun c => ?_)
  · have h := h.1 c
    refine g_iconst X (v := (1 : Int32)) dDI_sharesBytes_31 (by decide) ?_
    refine g_istore X (L' := [(6, .int (1 : Int32)), (0, .ref (base + 33)), (1, .int a0), (2, .long a1), (4, .long a2)]) dDI_sharesBytes_32 (Nat.le_of_ble_eq_true rfl) rfl ?_
    refine g_sub (L' := [(0, .ref (base + 33)), (1, .int a0), (2, .long a1), (4, .long a2), (6, .int (1 : Int32))]) [1, 2, 3, 4, 0] rfl ?_
    obtain ⟨n9, h⟩ := h
    exact r_34 n9 a0 a1 a2 (1 : Int32) M h
  · have h := h.2 c
    refine g_aload_n X dDI_sharesBytes_18 rfl 0 rfl ?_
    refine g_geti X hK.1 fw_DI_35 ly_33 rfl dDI_sharesBytes_19 ?_
    refine g_i2l X dDI_sharesBytes_22 rfl ?_
    refine g_lload X dDI_sharesBytes_23 3 rfl ?_
    refine g_lif_ge X dDI_sharesBytes_25 dDI_sharesBytes_26 (fun c => ?_) (fun c => ?_)
    · have h := h.1 c
      refine g_iconst X (v := (1 : Int32)) dDI_sharesBytes_31 (by decide) ?_
      refine g_istore X (L' := [(6, .int (1 : Int32)), (0, .ref (base + 33)), (1, .int a0), (2, .long a1), (4, .long a2)]) dDI_sharesBytes_32 (Nat.le_of_ble_eq_true rfl) rfl ?_
      refine g_sub (L' := [(0, .ref (base + 33)), (1, .int a0), (2, .long a1), (4, .long a2), (6, .int (1 : Int32))]) [1, 2, 3, 4, 0] rfl ?_
      obtain ⟨n9, h⟩ := h
      exact r_34 n9 a0 a1 a2 (1 : Int32) M h
    · have h := h.2 c
      refine g_iconst X (v := (1 : Int32)) dDI_sharesBytes_29 (by decide) ?_
      exact g_zret X hr hlk (by decide) dDI_sharesBytes_30 ⟨true, rfl, h⟩
set_option maxRecDepth 100000 in
set_option maxHeartbeats 4000000 in
theorem m_DI_entryFault {l : Launch} {D : va_G} {ta : Nat → ClassId} {base : Nat} {sa : Nat → Nat} {post : Int32 → gMem → Prop} {a0 : Int32} {M : gMem} (h : wp_DI_entryFault post a0 M) : GC gLay gCl D ta base gNw sa gTabs gTs l y_DI_entryFault b_DI_entryFault 11 (some .int) 3 75 [.ref (base + 33), .int a0] M (gPi post) := by
  refine GC.of (own := "ObjectFile$Directory") pn_DI rfl (Nat.le_of_ble_eq_true rfl) ?_
  intro p e s m below meth c X hK hr hlk
  have r_157 : ∀ (v1 : Int32) (v4 : Int32) (v5 : Int64) (v7 : Int64) (M : gMem), wj_DI_entryFault_157 post v1 v4 v5 v7 M → GMx D ta base p l e 3 75 s m [.ref (base + 33), .int a0] below meth c (gPi post) 11 157 [(0, .ref (base + 33)), (1, .int v1), (4, .int v4), (5, .long v5), (7, .long v7)] [] M := by
    intro v1 v4 v5 v7 M h
    unfold wj_DI_entryFault_157 at h
    refine g_iload X dDI_entryFault_157 2 rfl ?_
    refine g_if_eq X dDI_entryFault_159 (fun c => ?_) (fun c => ?_)
    · have h := h.1 c
      refine g_iconst X (v := (0 : Int32)) dDI_entryFault_195 (by decide) ?_
      exact g_iret X hr hlk dDI_entryFault_196 ⟨_, rfl, h⟩
    · have h := h.2 c
      refine g_lload X dDI_entryFault_162 4 rfl ?_
      refine g_lconst X (v := (0 : Int64)) dDI_entryFault_164 (by decide) ?_
      refine g_lif_le X dDI_entryFault_165 dDI_entryFault_166 (fun c => ?_) (fun c => ?_)
      · have h := h.1 c
        refine g_iconst X (v := (0 : Int32)) dDI_entryFault_195 (by decide) ?_
        exact g_iret X hr hlk dDI_entryFault_196 ⟨_, rfl, h⟩
      · have h := h.2 c
        refine g_aload_n X dDI_entryFault_169 rfl 0 rfl ?_
        refine g_iload_n X dDI_entryFault_170 rfl 1 rfl ?_
        refine g_lload X dDI_entryFault_171 3 rfl ?_
        refine g_lload X dDI_entryFault_173 3 rfl ?_
        refine g_lload X dDI_entryFault_175 4 rfl ?_
        refine g_ladd X dDI_entryFault_177 ?_
        refine g_callV X hK gTs_ok ly_33 rfl mw_DI_sharesBytes tw_710 mi_DI_sharesBytes ms_DI_sharesBytes (As := [.int v1, .long v5, .long (v5 + v7)]) rfl ⟨(Nat.le_of_ble_eq_true rfl), (Nat.le_of_ble_eq_true rfl), Nat.le_refl _, Nat.le_refl _⟩ (m_DI_sharesBytes h) (rest := []) rfl (Nat.le_of_ble_eq_true rfl) dDI_entryFault_178 (gk_z (fun r13 M14 h => ?_))
        refine g_if_eq X dDI_entryFault_181 (fun c => ?_) (fun c => ?_)
        · have h := h.1 c
          refine g_iconst X (v := (0 : Int32)) dDI_entryFault_195 (by decide) ?_
          exact g_iret X hr hlk dDI_entryFault_196 ⟨_, rfl, h⟩
        · have h := h.2 c
          refine g_aload_n X dDI_entryFault_184 rfl 0 rfl ?_
          refine g_bipush X (v := (14 : Int32)) dDI_entryFault_185 (by decide) ?_
          refine g_iload_n X dDI_entryFault_187 rfl 1 rfl ?_
          refine g_iconst X (v := (4 : Int32)) dDI_entryFault_188 (by decide) ?_
          refine g_callV X hK gTs_ok ly_33 rfl mw_DI_tellEntry tw_700 mi_DI_tellEntry ms_DI_tellEntry (As := [.int (14 : Int32), .int v1, .int (4 : Int32)]) rfl ⟨(Nat.le_of_ble_eq_true rfl), (Nat.le_of_ble_eq_true rfl), Nat.le_refl _, Nat.le_refl _⟩ (m_DI_tellEntry h) (rest := []) rfl (Nat.le_of_ble_eq_true rfl) dDI_entryFault_189 (gk_i (fun r15 M16 h => ?_))
          refine g_goto X dDI_entryFault_192 ?_
          exact g_iret X hr hlk dDI_entryFault_196 ⟨_, rfl, h⟩
  have r_113 : ∀ (v1 : Int32) (v4 : Int32) (v5 : Int64) (v7 : Int64) (M : gMem), wj_DI_entryFault_113 post v1 v4 v5 v7 M → GMx D ta base p l e 3 75 s m [.ref (base + 33), .int a0] below meth c (gPi post) 11 113 [(0, .ref (base + 33)), (1, .int v1), (4, .int v4), (5, .long v5), (7, .long v7)] [] M := by
    intro v1 v4 v5 v7 M h
    unfold wj_DI_entryFault_113 at h
    refine g_aload_n X dDI_entryFault_113 rfl 0 rfl ?_
    refine g_iload_n X dDI_entryFault_114 rfl 1 rfl ?_
    refine g_bipush X (v := (8 : Int32)) dDI_entryFault_115 (by decide) ?_
    refine g_callV X hK gTs_ok ly_33 rfl mw_DI_numberOf tw_696 mi_DI_numberOf ms_DI_numberOf (As := [.int v1, .int (8 : Int32)]) rfl ⟨(Nat.le_of_ble_eq_true rfl), (Nat.le_of_ble_eq_true rfl), Nat.le_refl _, Nat.le_refl _⟩ (m_DI_numberOf h) (rest := []) rfl (Nat.le_of_ble_eq_true rfl) dDI_entryFault_117 (gk_l (fun r7 M8 h => ?_))
    refine g_lstore X (L' := [(9, .long r7), (0, .ref (base + 33)), (1, .int v1), (4, .int v4), (5, .long v5), (7, .long v7)]) dDI_entryFault_120 (Nat.le_of_ble_eq_true rfl) rfl ?_
    refine g_lload X dDI_entryFault_122 0 rfl ?_
    refine g_callSN X hK gTs_ok mw_OF_isAlignment nw_709 mt_OF_isAlignment (As := [.long r7]) rfl ⟨(Nat.le_of_ble_eq_true rfl), (Nat.le_of_ble_eq_true rfl), Nat.le_refl _, Nat.le_refl _⟩ (m_OF_isAlignment h) (rest := []) rfl (Nat.le_of_ble_eq_true rfl) dDI_entryFault_124 (gk_z (fun r9 M10 h => ?_))
    refine g_if_eq X dDI_entryFault_127 (fun c => ?_) (fun c => ?_)
    · have h := h.1 c
      refine g_aload_n X dDI_entryFault_147 rfl 1 rfl ?_
      refine g_bipush X (v := (13 : Int32)) dDI_entryFault_148 (by decide) ?_
      refine g_iload_n X dDI_entryFault_150 rfl 2 rfl ?_
      refine g_bipush X (v := (8 : Int32)) dDI_entryFault_151 (by decide) ?_
      refine g_callV X hK gTs_ok ly_33 rfl mw_DI_tellEntry tw_700 mi_DI_tellEntry ms_DI_tellEntry (As := [.int (13 : Int32), .int v1, .int (8 : Int32)]) rfl ⟨(Nat.le_of_ble_eq_true rfl), (Nat.le_of_ble_eq_true rfl), Nat.le_refl _, Nat.le_refl _⟩ (m_DI_tellEntry h) (rest := []) rfl (Nat.le_of_ble_eq_true rfl) dDI_entryFault_153 (gk_i (fun r11 M12 h => ?_))
      exact g_iret X hr hlk dDI_entryFault_156 ⟨_, rfl, h⟩
    · have h := h.2 c
      refine g_iload X dDI_entryFault_130 3 rfl ?_
      refine g_if_eq X dDI_entryFault_132 (fun c => ?_) (fun c => ?_)
      · have h := h.1 c
        refine g_sub (L' := [(0, .ref (base + 33)), (1, .int v1), (4, .int v4), (5, .long v5), (7, .long v7)]) [1, 2, 3, 4, 5] rfl ?_
        exact r_157 v1 v4 v5 v7 M10 h
      · have h := h.2 c
        refine g_lload X dDI_entryFault_135 4 rfl ?_
        refine g_lload X dDI_entryFault_137 0 rfl ?_
        refine g_lconst X (v := (1 : Int64)) dDI_entryFault_139 (by decide) ?_
        refine g_lsub X dDI_entryFault_140 ?_
        refine g_land X dDI_entryFault_141 ?_
        refine g_lconst X (v := (0 : Int64)) dDI_entryFault_142 (by decide) ?_
        refine g_lif_eq X dDI_entryFault_143 dDI_entryFault_144 (fun c => ?_) (fun c => ?_)
        · have h := h.1 c
          refine g_sub (L' := [(0, .ref (base + 33)), (1, .int v1), (4, .int v4), (5, .long v5), (7, .long v7)]) [1, 2, 3, 4, 5] rfl ?_
          exact r_157 v1 v4 v5 v7 M10 h
        · have h := h.2 c
          refine g_aload_n X dDI_entryFault_147 rfl 1 rfl ?_
          refine g_bipush X (v := (13 : Int32)) dDI_entryFault_148 (by decide) ?_
          refine g_iload_n X dDI_entryFault_150 rfl 2 rfl ?_
          refine g_bipush X (v := (8 : Int32)) dDI_entryFault_151 (by decide) ?_
          refine g_callV X hK gTs_ok ly_33 rfl mw_DI_tellEntry tw_700 mi_DI_tellEntry ms_DI_tellEntry (As := [.int (13 : Int32), .int v1, .int (8 : Int32)]) rfl ⟨(Nat.le_of_ble_eq_true rfl), (Nat.le_of_ble_eq_true rfl), Nat.le_refl _, Nat.le_refl _⟩ (m_DI_tellEntry h) (rest := []) rfl (Nat.le_of_ble_eq_true rfl) dDI_entryFault_153 (gk_i (fun r17 M18 h => ?_))
          exact g_iret X hr hlk dDI_entryFault_156 ⟨_, rfl, h⟩
  have r_50 : ∀ (v1 : Int32) (v4 : Int32) (M : gMem), wj_DI_entryFault_50 post v1 v4 M → GMx D ta base p l e 3 75 s m [.ref (base + 33), .int a0] below meth c (gPi post) 11 50 [(0, .ref (base + 33)), (1, .int v1), (4, .int v4)] [] M := by
    intro v1 v4 M h
    unfold wj_DI_entryFault_50 at h
    refine g_aload_n X dDI_entryFault_50 rfl 0 rfl ?_
    refine g_iload_n X dDI_entryFault_51 rfl 1 rfl ?_
    refine g_iconst X (v := (4 : Int32)) dDI_entryFault_52 (by decide) ?_
    refine g_callV X hK gTs_ok ly_33 rfl mw_DI_numberOf tw_696 mi_DI_numberOf ms_DI_numberOf (As := [.int v1, .int (4 : Int32)]) rfl ⟨(Nat.le_of_ble_eq_true rfl), (Nat.le_of_ble_eq_true rfl), Nat.le_refl _, Nat.le_refl _⟩ (m_DI_numberOf h) (rest := []) rfl (Nat.le_of_ble_eq_true rfl) dDI_entryFault_53 (gk_l (fun r3 M4 h => ?_))
    refine g_lstore X (L' := [(5, .long r3), (0, .ref (base + 33)), (1, .int v1), (4, .int v4)]) dDI_entryFault_56 (Nat.le_of_ble_eq_true rfl) rfl ?_
    refine g_aload_n X dDI_entryFault_58 rfl 1 rfl ?_
    refine g_iload_n X dDI_entryFault_59 rfl 2 rfl ?_
    refine g_iconst X (v := (5 : Int32)) dDI_entryFault_60 (by decide) ?_
    refine g_callV X hK gTs_ok ly_33 rfl mw_DI_numberOf tw_696 mi_DI_numberOf ms_DI_numberOf (As := [.int v1, .int (5 : Int32)]) rfl ⟨(Nat.le_of_ble_eq_true rfl), (Nat.le_of_ble_eq_true rfl), Nat.le_refl _, Nat.le_refl _⟩ (m_DI_numberOf h) (rest := []) rfl (Nat.le_of_ble_eq_true rfl) dDI_entryFault_61 (gk_l (fun r5 M6 h => ?_))
    refine g_lstore X (L' := [(7, .long r5), (5, .long r3), (0, .ref (base + 33)), (1, .int v1), (4, .int v4)]) dDI_entryFault_64 (Nat.le_of_ble_eq_true rfl) rfl ?_
    refine g_iload X dDI_entryFault_66 4 rfl ?_
    refine g_if_eq X dDI_entryFault_68 (fun c => ?_) (fun c => ?_)
    · have h := h.1 c
      refine g_sub (L' := [(0, .ref (base + 33)), (1, .int v1), (4, .int v4), (5, .long r3), (7, .long r5)]) [2, 3, 4, 1, 0] rfl ?_
      exact r_113 v1 v4 r3 r5 M6 h
    · have h := h.2 c
      refine g_lload X dDI_entryFault_71 1 rfl ?_
      refine g_lload X dDI_entryFault_73 0 rfl ?_
      refine g_ladd X dDI_entryFault_75 ?_
      refine g_aload_n X dDI_entryFault_76 rfl 2 rfl ?_
      refine g_getr X hK.1 fw_DI_27 ly_33 rfl dDI_entryFault_77 ?_
      refine g_getiN X hK.1 (gNw_of hK) fw_DI_85 ly_17 rfl dDI_entryFault_80 ?_
      refine g_i2l X dDI_entryFault_83 rfl ?_
      refine g_lif_gt X dDI_entryFault_84 dDI_entryFault_85 (fun c => ?_) (fun c => ?_)
      · have h := h.1 c
        refine g_aload_n X dDI_entryFault_104 rfl 2 rfl ?_
        refine g_bipush X (v := (12 : Int32)) dDI_entryFault_105 (by decide) ?_
        refine g_iload_n X dDI_entryFault_107 rfl 3 rfl ?_
        refine g_iconst X (v := (4 : Int32)) dDI_entryFault_108 (by decide) ?_
        refine g_callV X hK gTs_ok ly_33 rfl mw_DI_tellEntry tw_700 mi_DI_tellEntry ms_DI_tellEntry (As := [.int (12 : Int32), .int v1, .int (4 : Int32)]) rfl ⟨(Nat.le_of_ble_eq_true rfl), (Nat.le_of_ble_eq_true rfl), Nat.le_refl _, Nat.le_refl _⟩ (m_DI_tellEntry h) (rest := []) rfl (Nat.le_of_ble_eq_true rfl) dDI_entryFault_109 (gk_i (fun r19 M20 h => ?_))
        exact g_iret X hr hlk dDI_entryFault_112 ⟨_, rfl, h⟩
      · have h := h.2 c
        refine g_lload X dDI_entryFault_88 0 rfl ?_
        refine g_lconst X (v := (0 : Int64)) dDI_entryFault_90 (by decide) ?_
        refine g_lif_le X dDI_entryFault_91 dDI_entryFault_92 (fun c => ?_) (fun c => ?_)
        · have h := h.1 c
          refine g_sub (L' := [(0, .ref (base + 33)), (1, .int v1), (4, .int v4), (5, .long r3), (7, .long r5)]) [2, 3, 4, 1, 0] rfl ?_
          exact r_113 v1 v4 r3 r5 M6 h
        · have h := h.2 c
          refine g_lload X dDI_entryFault_95 1 rfl ?_
          refine g_ldc2 X (v := (52 : Int64)) (tw_686) dDI_entryFault_97 ?_
          refine g_lif_ge X dDI_entryFault_100 dDI_entryFault_101 (fun c => ?_) (fun c => ?_)
          · have h := h.1 c
            refine g_sub (L' := [(0, .ref (base + 33)), (1, .int v1), (4, .int v4), (5, .long r3), (7, .long r5)]) [2, 3, 4, 1, 0] rfl ?_
            exact r_113 v1 v4 r3 r5 M6 h
          · have h := h.2 c
            refine g_aload_n X dDI_entryFault_104 rfl 2 rfl ?_
            refine g_bipush X (v := (12 : Int32)) dDI_entryFault_105 (by decide) ?_
            refine g_iload_n X dDI_entryFault_107 rfl 3 rfl ?_
            refine g_iconst X (v := (4 : Int32)) dDI_entryFault_108 (by decide) ?_
            refine g_callV X hK gTs_ok ly_33 rfl mw_DI_tellEntry tw_700 mi_DI_tellEntry ms_DI_tellEntry (As := [.int (12 : Int32), .int v1, .int (4 : Int32)]) rfl ⟨(Nat.le_of_ble_eq_true rfl), (Nat.le_of_ble_eq_true rfl), Nat.le_refl _, Nat.le_refl _⟩ (m_DI_tellEntry h) (rest := []) rfl (Nat.le_of_ble_eq_true rfl) dDI_entryFault_109 (gk_i (fun r21 M22 h => ?_))
            exact g_iret X hr hlk dDI_entryFault_112 ⟨_, rfl, h⟩
  have r_20 : ∀ (v1 : Int32) (v2 : Int64) (s0 : Int32) (M : gMem), wj_DI_entryFault_20 post v1 v2 s0 M → GMx D ta base p l e 3 75 s m [.ref (base + 33), .int a0] below meth c (gPi post) 11 20 [(0, .ref (base + 33)), (1, .int v1), (2, .long v2)] [.int s0] M := by
    intro v1 v2 s0 M h
    unfold wj_DI_entryFault_20 at h
    refine g_istore X (L' := [(4, .int s0), (0, .ref (base + 33)), (1, .int v1), (2, .long v2)]) dDI_entryFault_20 (Nat.le_of_ble_eq_true rfl) rfl ?_
    refine g_iload X dDI_entryFault_22 0 rfl ?_
    refine g_if_eq X dDI_entryFault_24 (fun c => ?_) (fun c => ?_)
    · have h := h.1 c
      refine g_sub (L' := [(0, .ref (base + 33)), (1, .int v1), (4, .int s0)]) [1, 2, 0] rfl ?_
      exact r_50 v1 s0 M h
    · have h := h.2 c
      refine g_lload_n X dDI_entryFault_27 rfl 3 rfl ?_
      refine g_lconst X (v := (1 : Int64)) dDI_entryFault_28 (by decide) ?_
      refine g_lif_lt X dDI_entryFault_29 dDI_entryFault_30 (fun c => ?_) (fun c => ?_)
      · have h := h.1 c
        refine g_aload_n X dDI_entryFault_41 rfl 1 rfl ?_
        refine g_bipush X (v := (11 : Int32)) dDI_entryFault_42 (by decide) ?_
        refine g_iload_n X dDI_entryFault_44 rfl 2 rfl ?_
        refine g_iconst X (v := (1 : Int32)) dDI_entryFault_45 (by decide) ?_
        refine g_callV X hK gTs_ok ly_33 rfl mw_DI_tellEntry tw_700 mi_DI_tellEntry ms_DI_tellEntry (As := [.int (11 : Int32), .int v1, .int (1 : Int32)]) rfl ⟨(Nat.le_of_ble_eq_true rfl), (Nat.le_of_ble_eq_true rfl), Nat.le_refl _, Nat.le_refl _⟩ (m_DI_tellEntry h) (rest := []) rfl (Nat.le_of_ble_eq_true rfl) dDI_entryFault_46 (gk_i (fun r23 M24 h => ?_))
        exact g_iret X hr hlk dDI_entryFault_49 ⟨_, rfl, h⟩
      · have h := h.2 c
        refine g_lload_n X dDI_entryFault_33 rfl 3 rfl ?_
        refine g_ldc2 X (v := (4 : Int64)) (tw_687) dDI_entryFault_34 ?_
        refine g_lif_le X dDI_entryFault_37 dDI_entryFault_38 (fun c => ?_) (fun c => ?_)
        · have h := h.1 c
          refine g_sub (L' := [(0, .ref (base + 33)), (1, .int v1), (4, .int s0)]) [1, 2, 0] rfl ?_
          exact r_50 v1 s0 M h
        · have h := h.2 c
          refine g_aload_n X dDI_entryFault_41 rfl 1 rfl ?_
          refine g_bipush X (v := (11 : Int32)) dDI_entryFault_42 (by decide) ?_
          refine g_iload_n X dDI_entryFault_44 rfl 2 rfl ?_
          refine g_iconst X (v := (1 : Int32)) dDI_entryFault_45 (by decide) ?_
          refine g_callV X hK gTs_ok ly_33 rfl mw_DI_tellEntry tw_700 mi_DI_tellEntry ms_DI_tellEntry (As := [.int (11 : Int32), .int v1, .int (1 : Int32)]) rfl ⟨(Nat.le_of_ble_eq_true rfl), (Nat.le_of_ble_eq_true rfl), Nat.le_refl _, Nat.le_refl _⟩ (m_DI_tellEntry h) (rest := []) rfl (Nat.le_of_ble_eq_true rfl) dDI_entryFault_46 (gk_i (fun r25 M26 h => ?_))
          exact g_iret X hr hlk dDI_entryFault_49 ⟨_, rfl, h⟩
  refine g_args (L' := [(0, .ref (base + 33)), (1, .int a0)]) rfl ?_
  unfold wp_DI_entryFault at h
  refine g_aload_n X dDI_entryFault_0 rfl 0 rfl ?_
  refine g_iload_n X dDI_entryFault_1 rfl 1 rfl ?_
  refine g_iconst X (v := (1 : Int32)) dDI_entryFault_2 (by decide) ?_
  refine g_callV X hK gTs_ok ly_33 rfl mw_DI_numberOf tw_696 mi_DI_numberOf ms_DI_numberOf (As := [.int a0, .int (1 : Int32)]) rfl ⟨(Nat.le_of_ble_eq_true rfl), (Nat.le_of_ble_eq_true rfl), Nat.le_refl _, Nat.le_refl _⟩ (m_DI_numberOf h) (rest := []) rfl (Nat.le_of_ble_eq_true rfl) dDI_entryFault_3 (gk_l (fun r1 M2 h => ?_))
  refine g_lstore_n X (L' := [(2, .long r1), (0, .ref (base + 33)), (1, .int a0)]) dDI_entryFault_6 rfl (Nat.le_of_ble_eq_true rfl) rfl ?_
  refine g_lload_n X dDI_entryFault_7 rfl 0 rfl ?_
  refine g_ldc2 X (v := (8 : Int64)) (tw_708) dDI_entryFault_8 ?_
  refine g_lif_eq X dDI_entryFault_11 dDI_entryFault_12 (fun c => ?_) (fun c => ?_)
  · have h := h.1 c
    refine g_iconst X (v := (0 : Int32)) dDI_entryFault_19 (by decide) ?_
    refine g_sub (L' := [(0, .ref (base + 33)), (1, .int a0), (2, .long r1)]) [1, 2, 0] rfl ?_
    exact r_20 a0 r1 (0 : Int32) M2 h
  · have h := h.2 c
    refine g_iconst X (v := (1 : Int32)) dDI_entryFault_15 (by decide) ?_
    refine g_goto X dDI_entryFault_16 ?_
    refine g_sub (L' := [(0, .ref (base + 33)), (1, .int a0), (2, .long r1)]) [1, 2, 0] rfl ?_
    exact r_20 a0 r1 (1 : Int32) M2 h
set_option maxRecDepth 100000 in
set_option maxHeartbeats 4000000 in
theorem m_DI_entriesFault {l : Launch} {D : va_G} {ta : Nat → ClassId} {base : Nat} {sa : Nat → Nat} {post : Int32 → gMem → Prop} {M : gMem} (h : wp_DI_entriesFault post M) : GC gLay gCl D ta base gNw sa gTabs gTs l y_DI_entriesFault b_DI_entriesFault 3 (some .int) 4 105 [.ref (base + 33)] M (gPi post) := by
  refine GC.of (own := "ObjectFile$Directory") pn_DI rfl (Nat.le_of_ble_eq_true rfl) ?_
  intro p e s m below meth c X hK hr hlk
  have r_36 : ∀ (n : Nat) (v1 : Int32) (M : gMem), wl_DI_entriesFault_36 post n v1 M → GMx D ta base p l e 4 105 s m [.ref (base + 33)] below meth c (gPi post) 3 36 [(0, .ref (base + 33)), (1, .int v1)] [] M := by
    intro n
    induction n with
    | zero => exact fun _ M h => h.elim
    | succ n ih =>
      intro v1 M h
      refine g_iload_n X dDI_entriesFault_36 rfl 1 rfl ?_
      refine g_aload_n X dDI_entriesFault_37 rfl 0 rfl ?_
      refine g_geti X hK.1 fw_DI_51 ly_33 rfl dDI_entriesFault_38 ?_
      refine g_icmp_ge X dDI_entriesFault_41 (fun c => ?_) (fun c => ?_)
      · have h := h.1 c
        refine g_iconst X (v := (0 : Int32)) dDI_entriesFault_62 (by decide) ?_
        exact g_iret X hr hlk dDI_entriesFault_63 ⟨_, rfl, h⟩
      · have h := h.2 c
        refine g_aload_n X dDI_entriesFault_44 rfl 0 rfl ?_
        refine g_iload_n X dDI_entriesFault_45 rfl 1 rfl ?_
        refine g_callV X hK gTs_ok ly_33 rfl mw_DI_entryFault tw_704 mi_DI_entryFault ms_DI_entryFault (As := [.int v1]) rfl ⟨(Nat.le_of_ble_eq_true rfl), (Nat.le_of_ble_eq_true rfl), Nat.le_refl _, Nat.le_refl _⟩ (m_DI_entryFault h) (rest := []) rfl (Nat.le_of_ble_eq_true rfl) dDI_entriesFault_46 (gk_i (fun r1 M2 h => ?_))
        refine g_istore_n X (L' := [(2, .int r1), (0, .ref (base + 33)), (1, .int v1)]) dDI_entriesFault_49 rfl (Nat.le_of_ble_eq_true rfl) rfl ?_
        refine g_iload_n X dDI_entriesFault_50 rfl 0 rfl ?_
        refine g_if_eq X dDI_entriesFault_51 (fun c => ?_) (fun c => ?_)
        · have h := h.1 c
          obtain ⟨x3, ex3⟩ : ∃ z : Int32, z = v1 + (1 : Int32) := ⟨_, rfl⟩
          have h := h x3 ex3
          refine g_iinc X (L' := [(1, .int x3), (2, .int r1), (0, .ref (base + 33))]) (k := 2) dDI_entriesFault_56 rfl (v := x3) (by rw [ex3]; rfl) (Nat.le_of_ble_eq_true rfl) rfl ?_
          refine g_goto X dDI_entriesFault_59 ?_
          refine g_sub (L' := [(0, .ref (base + 33)), (1, .int x3)]) [2, 0] rfl ?_
          exact ih x3 M2 h
        · have h := h.2 c
          refine g_iload_n X dDI_entriesFault_54 rfl 0 rfl ?_
          exact g_iret X hr hlk dDI_entriesFault_55 ⟨_, rfl, h⟩
  have r_2 : ∀ (n : Nat) (v1 : Int32) (M : gMem), wl_DI_entriesFault_2 post n v1 M → GMx D ta base p l e 4 105 s m [.ref (base + 33)] below meth c (gPi post) 3 2 [(0, .ref (base + 33)), (1, .int v1)] [] M := by
    intro n
    induction n with
    | zero => exact fun _ M h => h.elim
    | succ n ih =>
      intro v1 M h
      refine g_iload_n X dDI_entriesFault_2 rfl 1 rfl ?_
      refine g_bipush X (v := (10 : Int32)) dDI_entriesFault_3 (by decide) ?_
      refine g_icmp_ge X dDI_entriesFault_5 (fun c => ?_) (fun c => ?_)
      · have h := h.1 c
        refine g_iconst X (v := (1 : Int32)) dDI_entriesFault_34 (by decide) ?_
        refine g_istore_n X (L' := [(1, .int (1 : Int32)), (0, .ref (base + 33))]) dDI_entriesFault_35 rfl (Nat.le_of_ble_eq_true rfl) rfl ?_
        refine g_sub (L' := [(0, .ref (base + 33)), (1, .int (1 : Int32))]) [1, 0] rfl ?_
        obtain ⟨n9, h⟩ := h
        exact r_36 n9 (1 : Int32) M h
      · have h := h.2 c
        refine g_aload_n X dDI_entriesFault_8 rfl 0 rfl ?_
        refine g_iconst X (v := (0 : Int32)) dDI_entriesFault_9 (by decide) ?_
        refine g_iload_n X dDI_entriesFault_10 rfl 1 rfl ?_
        refine g_callV X hK gTs_ok ly_33 rfl mw_DI_numberOf tw_696 mi_DI_numberOf ms_DI_numberOf (As := [.int (0 : Int32), .int v1]) rfl ⟨(Nat.le_of_ble_eq_true rfl), (Nat.le_of_ble_eq_true rfl), Nat.le_refl _, Nat.le_refl _⟩ (m_DI_numberOf h) (rest := []) rfl (Nat.le_of_ble_eq_true rfl) dDI_entriesFault_11 (gk_l (fun r4 M5 h => ?_))
        refine g_lconst X (v := (0 : Int64)) dDI_entriesFault_14 (by decide) ?_
        refine g_lif_eq X dDI_entriesFault_15 dDI_entriesFault_16 (fun c => ?_) (fun c => ?_)
        · have h := h.1 c
          obtain ⟨x6, ex6⟩ : ∃ z : Int32, z = v1 + (1 : Int32) := ⟨_, rfl⟩
          have h := h x6 ex6
          refine g_iinc X (L' := [(1, .int x6), (0, .ref (base + 33))]) (k := 1) dDI_entriesFault_28 rfl (v := x6) (by rw [ex6]; rfl) (Nat.le_of_ble_eq_true rfl) rfl ?_
          refine g_goto X dDI_entriesFault_31 ?_
          refine g_sub (L' := [(0, .ref (base + 33)), (1, .int x6)]) [1, 0] rfl ?_
          exact ih x6 M5 h
        · have h := h.2 c
          refine g_aload_n X dDI_entriesFault_19 rfl 0 rfl ?_
          refine g_bipush X (v := (11 : Int32)) dDI_entriesFault_20 (by decide) ?_
          refine g_iconst X (v := (0 : Int32)) dDI_entriesFault_22 (by decide) ?_
          refine g_iload_n X dDI_entriesFault_23 rfl 1 rfl ?_
          refine g_callV X hK gTs_ok ly_33 rfl mw_DI_tellEntry tw_700 mi_DI_tellEntry ms_DI_tellEntry (As := [.int (11 : Int32), .int (0 : Int32), .int v1]) rfl ⟨(Nat.le_of_ble_eq_true rfl), (Nat.le_of_ble_eq_true rfl), Nat.le_refl _, Nat.le_refl _⟩ (m_DI_tellEntry h) (rest := []) rfl (Nat.le_of_ble_eq_true rfl) dDI_entriesFault_24 (gk_i (fun r7 M8 h => ?_))
          exact g_iret X hr hlk dDI_entriesFault_27 ⟨_, rfl, h⟩
  refine g_args (L' := [(0, .ref (base + 33))]) rfl ?_
  unfold wp_DI_entriesFault at h
  refine g_iconst X (v := (0 : Int32)) dDI_entriesFault_0 (by decide) ?_
  refine g_istore_n X (L' := [(1, .int (0 : Int32)), (0, .ref (base + 33))]) dDI_entriesFault_1 rfl (Nat.le_of_ble_eq_true rfl) rfl ?_
  refine g_sub (L' := [(0, .ref (base + 33)), (1, .int (0 : Int32))]) [1, 0] rfl ?_
  obtain ⟨n9, h⟩ := h
  exact r_2 n9 (0 : Int32) M h
set_option maxRecDepth 100000 in
set_option maxHeartbeats 4000000 in
theorem m_DI_stringsFault {l : Launch} {D : va_G} {ta : Nat → ClassId} {base : Nat} {sa : Nat → Nat} {post : Int32 → gMem → Prop} {a0 : Int32} {a1 : Int32} {M : gMem} (h : wp_DI_stringsFault post a0 a1 M) : GC gLay gCl D ta base gNw sa gTabs gTs l y_DI_stringsFault b_DI_stringsFault 6 (some .int) 2 45 [.ref (base + 33), .int a0, .int a1] M (gPi post) := by
  refine GC.of (own := "ObjectFile$Directory") pn_DI rfl (Nat.le_of_ble_eq_true rfl) ?_
  intro p e s m below meth c X hK hr hlk
  refine g_args (L' := [(0, .ref (base + 33)), (1, .int a0), (2, .int a1)]) rfl ?_
  unfold wp_DI_stringsFault at h
  refine g_aload_n X dDI_stringsFault_0 rfl 0 rfl ?_
  refine g_iload_n X dDI_stringsFault_1 rfl 2 rfl ?_
  refine g_iconst X (v := (1 : Int32)) dDI_stringsFault_2 (by decide) ?_
  refine g_callV X hK gTs_ok ly_33 rfl mw_DI_numberOf tw_696 mi_DI_numberOf ms_DI_numberOf (As := [.int a1, .int (1 : Int32)]) rfl ⟨(Nat.le_of_ble_eq_true rfl), (Nat.le_of_ble_eq_true rfl), Nat.le_refl _, Nat.le_refl _⟩ (m_DI_numberOf h) (rest := []) rfl (Nat.le_of_ble_eq_true rfl) dDI_stringsFault_3 (gk_l (fun r1 M2 h => ?_))
  refine g_ldc2 X (v := (3 : Int64)) (tw_718) dDI_stringsFault_6 ?_
  refine g_lif_eq X dDI_stringsFault_9 dDI_stringsFault_10 (fun c => ?_) (fun c => ?_)
  · have h := h.1 c
    refine g_aload_n X dDI_stringsFault_21 rfl 0 rfl ?_
    refine g_iload_n X dDI_stringsFault_22 rfl 2 rfl ?_
    refine g_iconst X (v := (4 : Int32)) dDI_stringsFault_23 (by decide) ?_
    refine g_callV X hK gTs_ok ly_33 rfl mw_DI_numberOf tw_696 mi_DI_numberOf ms_DI_numberOf (As := [.int a1, .int (4 : Int32)]) rfl ⟨(Nat.le_of_ble_eq_true rfl), (Nat.le_of_ble_eq_true rfl), Nat.le_refl _, Nat.le_refl _⟩ (m_DI_numberOf h) (rest := []) rfl (Nat.le_of_ble_eq_true rfl) dDI_stringsFault_24 (gk_l (fun r3 M4 h => ?_))
    refine g_l2i X dDI_stringsFault_27 rfl ?_
    refine g_topi (fun x5 ex5 => ?_)
    have h := h x5 ex5
    refine g_istore_n X (L' := [(3, .int x5), (0, .ref (base + 33)), (1, .int a0), (2, .int a1)]) dDI_stringsFault_28 rfl (Nat.le_of_ble_eq_true rfl) rfl ?_
    refine g_aload_n X dDI_stringsFault_29 rfl 1 rfl ?_
    refine g_iload_n X dDI_stringsFault_30 rfl 3 rfl ?_
    refine g_iconst X (v := (5 : Int32)) dDI_stringsFault_31 (by decide) ?_
    refine g_callV X hK gTs_ok ly_33 rfl mw_DI_numberOf tw_696 mi_DI_numberOf ms_DI_numberOf (As := [.int a1, .int (5 : Int32)]) rfl ⟨(Nat.le_of_ble_eq_true rfl), (Nat.le_of_ble_eq_true rfl), Nat.le_refl _, Nat.le_refl _⟩ (m_DI_numberOf h) (rest := []) rfl (Nat.le_of_ble_eq_true rfl) dDI_stringsFault_32 (gk_l (fun r6 M7 h => ?_))
    refine g_l2i X dDI_stringsFault_35 rfl ?_
    refine g_topi (fun x8 ex8 => ?_)
    have h := h x8 ex8
    refine g_istore X (L' := [(4, .int x8), (3, .int x5), (0, .ref (base + 33)), (1, .int a0), (2, .int a1)]) dDI_stringsFault_36 (Nat.le_of_ble_eq_true rfl) rfl ?_
    refine g_iload X dDI_stringsFault_38 0 rfl ?_
    refine g_if_ne X dDI_stringsFault_40 (fun c => ?_) (fun c => ?_)
    · have h := h.1 c
      refine g_aload_n X dDI_stringsFault_51 rfl 2 rfl ?_
      refine g_getr X hK.1 fw_DI_27 ly_33 rfl dDI_stringsFault_52 ?_
      refine g_iload_n X dDI_stringsFault_55 rfl 1 rfl ?_
      refine g_callVN X hK gTs_ok ly_17 rfl mw_FB_u1 nw_669 mi_FB_u1 ms_FB_u1 (As := [.int x5]) rfl ⟨(Nat.le_of_ble_eq_true rfl), (Nat.le_of_ble_eq_true rfl), Nat.le_refl _, Nat.le_refl _⟩ (m_FB_u1 h) (rest := []) rfl (Nat.le_of_ble_eq_true rfl) dDI_stringsFault_56 (gk_i (fun r9 M10 h => ?_))
      refine g_if_eq X dDI_stringsFault_59 (fun c => ?_) (fun c => ?_)
      · have h := h.1 c
        refine g_iload_n X dDI_stringsFault_72 rfl 1 rfl ?_
        refine g_iload X dDI_stringsFault_73 0 rfl ?_
        refine g_iadd X dDI_stringsFault_75 ?_
        refine g_iconst X (v := (1 : Int32)) dDI_stringsFault_76 (by decide) ?_
        refine g_isub X dDI_stringsFault_77 ?_
        refine g_topi (fun x11 ex11 => ?_)
        have h := h x11 ex11
        refine g_istore X (L' := [(5, .int x11), (4, .int x8), (3, .int x5), (0, .ref (base + 33)), (1, .int a0), (2, .int a1)]) dDI_stringsFault_78 (Nat.le_of_ble_eq_true rfl) rfl ?_
        refine g_aload_n X dDI_stringsFault_80 rfl 3 rfl ?_
        refine g_getr X hK.1 fw_DI_27 ly_33 rfl dDI_stringsFault_81 ?_
        refine g_iload X dDI_stringsFault_84 0 rfl ?_
        refine g_callVN X hK gTs_ok ly_17 rfl mw_FB_u1 nw_669 mi_FB_u1 ms_FB_u1 (As := [.int x11]) rfl ⟨(Nat.le_of_ble_eq_true rfl), (Nat.le_of_ble_eq_true rfl), Nat.le_refl _, Nat.le_refl _⟩ (m_FB_u1 h) (rest := []) rfl (Nat.le_of_ble_eq_true rfl) dDI_stringsFault_86 (gk_i (fun r12 M13 h => ?_))
        refine g_if_eq X dDI_stringsFault_89 (fun c => ?_) (fun c => ?_)
        · have h := h.1 c
          refine g_iconst X (v := (0 : Int32)) dDI_stringsFault_105 (by decide) ?_
          exact g_iret X hr hlk dDI_stringsFault_106 ⟨_, rfl, h⟩
        · have h := h.2 c
          refine g_aload_n X dDI_stringsFault_92 rfl 3 rfl ?_
          refine g_getr X hK.1 fw_DI_31 ly_33 rfl dDI_stringsFault_93 ?_
          refine g_iload_n X dDI_stringsFault_96 rfl 4 rfl ?_
          refine g_iload X dDI_stringsFault_97 0 rfl ?_
          refine g_callVN X hK gTs_ok ly_32 rfl mw_FI_tell nw_664 mi_FI_tell ms_FI_tell (As := [.int a0, .int x11]) rfl ⟨(Nat.le_of_ble_eq_true rfl), (Nat.le_of_ble_eq_true rfl), Nat.le_refl _, Nat.le_refl _⟩ (m_FI_tell h) (rest := []) rfl (Nat.le_of_ble_eq_true rfl) dDI_stringsFault_99 (gk_i (fun r14 M15 h => ?_))
          refine g_goto X dDI_stringsFault_102 ?_
          exact g_iret X hr hlk dDI_stringsFault_106 ⟨_, rfl, h⟩
      · have h := h.2 c
        refine g_aload_n X dDI_stringsFault_62 rfl 2 rfl ?_
        refine g_getr X hK.1 fw_DI_31 ly_33 rfl dDI_stringsFault_63 ?_
        refine g_iload_n X dDI_stringsFault_66 rfl 3 rfl ?_
        refine g_iload_n X dDI_stringsFault_67 rfl 1 rfl ?_
        refine g_callVN X hK gTs_ok ly_32 rfl mw_FI_tell nw_664 mi_FI_tell ms_FI_tell (As := [.int a0, .int x5]) rfl ⟨(Nat.le_of_ble_eq_true rfl), (Nat.le_of_ble_eq_true rfl), Nat.le_refl _, Nat.le_refl _⟩ (m_FI_tell h) (rest := []) rfl (Nat.le_of_ble_eq_true rfl) dDI_stringsFault_68 (gk_i (fun r16 M17 h => ?_))
        exact g_iret X hr hlk dDI_stringsFault_71 ⟨_, rfl, h⟩
    · have h := h.2 c
      refine g_aload_n X dDI_stringsFault_43 rfl 2 rfl ?_
      refine g_iload_n X dDI_stringsFault_44 rfl 3 rfl ?_
      refine g_iload_n X dDI_stringsFault_45 rfl 4 rfl ?_
      refine g_iconst X (v := (5 : Int32)) dDI_stringsFault_46 (by decide) ?_
      refine g_callV X hK gTs_ok ly_33 rfl mw_DI_tellEntry tw_700 mi_DI_tellEntry ms_DI_tellEntry (As := [.int a0, .int a1, .int (5 : Int32)]) rfl ⟨(Nat.le_of_ble_eq_true rfl), (Nat.le_of_ble_eq_true rfl), Nat.le_refl _, Nat.le_refl _⟩ (m_DI_tellEntry h) (rest := []) rfl (Nat.le_of_ble_eq_true rfl) dDI_stringsFault_47 (gk_i (fun r18 M19 h => ?_))
      exact g_iret X hr hlk dDI_stringsFault_50 ⟨_, rfl, h⟩
  · have h := h.2 c
    refine g_aload_n X dDI_stringsFault_13 rfl 0 rfl ?_
    refine g_iload_n X dDI_stringsFault_14 rfl 1 rfl ?_
    refine g_iload_n X dDI_stringsFault_15 rfl 2 rfl ?_
    refine g_iconst X (v := (1 : Int32)) dDI_stringsFault_16 (by decide) ?_
    refine g_callV X hK gTs_ok ly_33 rfl mw_DI_tellEntry tw_700 mi_DI_tellEntry ms_DI_tellEntry (As := [.int a0, .int a1, .int (1 : Int32)]) rfl ⟨(Nat.le_of_ble_eq_true rfl), (Nat.le_of_ble_eq_true rfl), Nat.le_refl _, Nat.le_refl _⟩ (m_DI_tellEntry h) (rest := []) rfl (Nat.le_of_ble_eq_true rfl) dDI_stringsFault_17 (gk_i (fun r20 M21 h => ?_))
    exact g_iret X hr hlk dDI_stringsFault_20 ⟨_, rfl, h⟩
set_option maxRecDepth 100000 in
set_option maxHeartbeats 4000000 in
theorem m_AR_fill1_35 {l : Launch} {D : va_G} {ta : Nat → ClassId} {base : Nat} {sa : Nat → Nat} {post : gMem → Prop} {a1 : Int32} {M : gMem} (h : wp_AR_fill1_35 post a1 M) : GC gLay gCl D ta base gNw sa gTabs gTs l y_AR_fill1 b_AR_fill1 4 none 0 0 [.ref (base + 35), .int a1] M (gPv post) := by
  refine GC.of (own := "java/util/Arrays") pn_AR rfl (Nat.le_of_ble_eq_true rfl) ?_
  intro p e s m below meth c X hK hr hlk
  have r_5 : ∀ (n : Nat) (v1 : Int32) (v2 : Int32) (v3 : Int32) (M : gMem), wl_AR_fill1_35_5 post n v1 v2 v3 M → GMx D ta base p l e 0 0 s m [.ref (base + 35), .int a1] below meth c (gPv post) 4 5 [(0, .ref (base + 35)), (1, .int v1), (2, .int v2), (3, .int v3)] [] M := by
    intro n
    induction n with
    | zero => exact fun _ _ _ M h => h.elim
    | succ n ih =>
      intro v1 v2 v3 M h
      refine g_iload_n X dAR_fill1_5 rfl 2 rfl ?_
      refine g_iload_n X dAR_fill1_6 rfl 3 rfl ?_
      refine g_icmp_ge X dAR_fill1_7 (fun c => ?_) (fun c => ?_)
      · have h := h.1 c
        exact g_vret X hr hlk dAR_fill1_20 ⟨rfl, h⟩
      · have h := h.2 c
        refine g_aload_n X dAR_fill1_10 rfl 0 rfl ?_
        refine g_iload_n X dAR_fill1_11 rfl 2 rfl ?_
        refine g_iload_n X dAR_fill1_12 rfl 1 rfl ?_
        obtain ⟨hi, h⟩ := h
        refine g_iast X hK.1 ly_35 hi dAR_fill1_13 ?_
        refine g_topM (fun M1 eM1 => ?_)
        have h := h M1 eM1
        obtain ⟨x2, ex2⟩ : ∃ z : Int32, z = v2 + (1 : Int32) := ⟨_, rfl⟩
        have h := h x2 ex2
        refine g_iinc X (L' := [(2, .int x2), (0, .ref (base + 35)), (1, .int v1), (3, .int v3)]) (k := 2) dAR_fill1_14 rfl (v := x2) (by rw [ex2]; rfl) (Nat.le_of_ble_eq_true rfl) rfl ?_
        refine g_goto X dAR_fill1_17 ?_
        refine g_sub (L' := [(0, .ref (base + 35)), (1, .int v1), (2, .int x2), (3, .int v3)]) [1, 2, 0, 3] rfl ?_
        exact ih v1 x2 v3 M1 h
  refine g_args (L' := [(0, .ref (base + 35)), (1, .int a1)]) rfl ?_
  unfold wp_AR_fill1_35 at h
  refine g_iconst X (v := (0 : Int32)) dAR_fill1_0 (by decide) ?_
  refine g_istore_n X (L' := [(2, .int (0 : Int32)), (0, .ref (base + 35)), (1, .int a1)]) dAR_fill1_1 rfl (Nat.le_of_ble_eq_true rfl) rfl ?_
  refine g_aload_n X dAR_fill1_2 rfl 1 rfl ?_
  refine g_alen X hK.1 ly_35 (by decide) (v := (11 : Int32)) (by decide) dAR_fill1_3 ?_
  refine g_istore_n X (L' := [(3, .int (11 : Int32)), (2, .int (0 : Int32)), (0, .ref (base + 35)), (1, .int a1)]) dAR_fill1_4 rfl (Nat.le_of_ble_eq_true rfl) rfl ?_
  refine g_sub (L' := [(0, .ref (base + 35)), (1, .int a1), (2, .int (0 : Int32)), (3, .int (11 : Int32))]) [2, 3, 1, 0] rfl ?_
  obtain ⟨n9, h⟩ := h
  exact r_5 n9 a1 (0 : Int32) (11 : Int32) M h
set_option maxRecDepth 100000 in
set_option maxHeartbeats 4000000 in
theorem m_DI_standsAt {l : Launch} {D : va_G} {ta : Nat → ClassId} {base : Nat} {sa : Nat → Nat} {post : Bool → gMem → Prop} {a0 : Int32} {a1 : Nat} {M : gMem} (h : wp_DI_standsAt post a0 a1 M) : GC gLay gCl D ta base gNw sa gTabs gTs l y_DI_standsAt b_DI_standsAt 5 (some .boolean) 4 85 [.ref (base + 33), .int a0, .ref (sa (100 + a1))] M (gPz post) := by
  refine GC.of (own := "ObjectFile$Directory") pn_DI rfl (Nat.le_of_ble_eq_true rfl) ?_
  intro p e s m below meth c X hK hr hlk
  have r_8 : ∀ (n : Nat) (v1 : Int32) (v2 : Nat) (v3 : Int32) (v4 : Int32) (M : gMem), wl_DI_standsAt_8 post n v1 v2 v3 v4 M → GMx D ta base p l e 4 85 s m [.ref (base + 33), .int a0, .ref (sa (100 + a1))] below meth c (gPz post) 5 8 [(0, .ref (base + 33)), (1, .int v1), (2, .ref (sa (100 + v2))), (3, .int v3), (4, .int v4)] [] M := by
    intro n
    induction n with
    | zero => exact fun _ _ _ _ M h => h.elim
    | succ n ih =>
      intro v1 v2 v3 v4 M h
      refine g_iload X dDI_standsAt_8 4 rfl ?_
      refine g_iload_n X dDI_standsAt_10 rfl 3 rfl ?_
      refine g_icmp_ge X dDI_standsAt_11 (fun c => ?_) (fun c => ?_)
      · have h := h.1 c
        refine g_aload_n X dDI_standsAt_42 rfl 0 rfl ?_
        refine g_getr X hK.1 fw_DI_27 ly_33 rfl dDI_standsAt_43 ?_
        refine g_iload_n X dDI_standsAt_46 rfl 1 rfl ?_
        refine g_iload_n X dDI_standsAt_47 rfl 3 rfl ?_
        refine g_iadd X dDI_standsAt_48 ?_
        refine g_callVN X hK gTs_ok ly_17 rfl mw_FB_u1 nw_669 mi_FB_u1 ms_FB_u1 (As := [.int (v1 + v3)]) rfl ⟨(Nat.le_of_ble_eq_true rfl), (Nat.le_of_ble_eq_true rfl), Nat.le_refl _, Nat.le_refl _⟩ (m_FB_u1 h) (rest := []) rfl (Nat.le_of_ble_eq_true rfl) dDI_standsAt_49 (gk_i (fun r2 M3 h => ?_))
        refine g_if_ne X dDI_standsAt_52 (fun c => ?_) (fun c => ?_)
        · have h := h.1 c
          refine g_iconst X (v := (0 : Int32)) dDI_standsAt_59 (by decide) ?_
          exact g_zret X hr hlk (by decide) dDI_standsAt_60 ⟨false, rfl, h⟩
        · have h := h.2 c
          refine g_iconst X (v := (1 : Int32)) dDI_standsAt_55 (by decide) ?_
          refine g_goto X dDI_standsAt_56 ?_
          exact g_zret X hr hlk (by decide) dDI_standsAt_60 ⟨true, rfl, h⟩
      · have h := h.2 c
        refine g_aload_n X dDI_standsAt_14 rfl 0 rfl ?_
        refine g_getr X hK.1 fw_DI_27 ly_33 rfl dDI_standsAt_15 ?_
        refine g_iload_n X dDI_standsAt_18 rfl 1 rfl ?_
        refine g_iload X dDI_standsAt_19 4 rfl ?_
        refine g_iadd X dDI_standsAt_21 ?_
        refine g_callVN X hK gTs_ok ly_17 rfl mw_FB_u1 nw_669 mi_FB_u1 ms_FB_u1 (As := [.int (v1 + v4)]) rfl ⟨(Nat.le_of_ble_eq_true rfl), (Nat.le_of_ble_eq_true rfl), Nat.le_refl _, Nat.le_refl _⟩ (m_FB_u1 h) (rest := []) rfl (Nat.le_of_ble_eq_true rfl) dDI_standsAt_22 (gk_i (fun r4 M5 h => ?_))
        refine g_aload_n X dDI_standsAt_25 rfl 2 rfl ?_
        refine g_iload X dDI_standsAt_26 4 rfl ?_
        obtain ⟨hi, hj, h⟩ := h
        refine g_callK X hK gTs_ok hi mw_SG_charAt tw_734 mi_SG_charAt ms_SG_charAt (As := [.int v4]) rfl ⟨(Nat.le_of_ble_eq_true rfl), (Nat.le_of_ble_eq_true rfl), Nat.le_refl _, Nat.le_refl _⟩ (m_SG_charAt hi hj) (rest := [.int r4]) rfl (Nat.le_of_ble_eq_true rfl) dDI_standsAt_28 (gk_i (fun r M9 e => ?_))
        obtain ⟨rfl, e⟩ := e
        rw [e]
        refine g_icmp_eq X dDI_standsAt_31 (fun c => ?_) (fun c => ?_)
        · have h := h.1 c
          obtain ⟨x6, ex6⟩ : ∃ z : Int32, z = v4 + (1 : Int32) := ⟨_, rfl⟩
          have h := h x6 ex6
          refine g_iinc X (L' := [(4, .int x6), (0, .ref (base + 33)), (1, .int v1), (2, .ref (sa (100 + v2))), (3, .int v3)]) (k := 4) dDI_standsAt_36 rfl (v := x6) (by rw [ex6]; rfl) (Nat.le_of_ble_eq_true rfl) rfl ?_
          refine g_goto X dDI_standsAt_39 ?_
          refine g_sub (L' := [(0, .ref (base + 33)), (1, .int v1), (2, .ref (sa (100 + v2))), (3, .int v3), (4, .int x6)]) [1, 2, 3, 4, 0] rfl ?_
          exact ih v1 v2 v3 x6 M5 h
        · have h := h.2 c
          refine g_iconst X (v := (0 : Int32)) dDI_standsAt_34 (by decide) ?_
          exact g_zret X hr hlk (by decide) dDI_standsAt_35 ⟨false, rfl, h⟩
  refine g_args (L' := [(0, .ref (base + 33)), (1, .int a0), (2, .ref (sa (100 + a1)))]) rfl ?_
  unfold wp_DI_standsAt at h
  refine g_aload_n X dDI_standsAt_0 rfl 2 rfl ?_
  obtain ⟨hi, h⟩ := h
  refine g_callK X hK gTs_ok hi mw_SG_length tw_733 mi_SG_length ms_SG_length (As := []) rfl ⟨(Nat.le_of_ble_eq_true rfl), (Nat.le_of_ble_eq_true rfl), Nat.le_refl _, Nat.le_refl _⟩ (m_SG_length hi) (rest := []) rfl (Nat.le_of_ble_eq_true rfl) dDI_standsAt_1 (gk_i (fun r M9 e => ?_))
  obtain ⟨rfl, e⟩ := e
  rw [e]
  refine g_topi (fun x1 ex1 => ?_)
  have h := h x1 ex1
  refine g_istore_n X (L' := [(3, .int x1), (0, .ref (base + 33)), (1, .int a0), (2, .ref (sa (100 + a1)))]) dDI_standsAt_4 rfl (Nat.le_of_ble_eq_true rfl) rfl ?_
  refine g_iconst X (v := (0 : Int32)) dDI_standsAt_5 (by decide) ?_
  refine g_istore X (L' := [(4, .int (0 : Int32)), (3, .int x1), (0, .ref (base + 33)), (1, .int a0), (2, .ref (sa (100 + a1)))]) dDI_standsAt_6 (Nat.le_of_ble_eq_true rfl) rfl ?_
  refine g_sub (L' := [(0, .ref (base + 33)), (1, .int a0), (2, .ref (sa (100 + a1))), (3, .int x1), (4, .int (0 : Int32))]) [2, 3, 4, 1, 0] rfl ?_
  obtain ⟨n9, h⟩ := h
  exact r_8 n9 a0 a1 x1 (0 : Int32) M h
set_option maxRecDepth 100000 in
set_option maxHeartbeats 4000000 in
theorem m_DI_partNamedBy {l : Launch} {D : va_G} {ta : Nat → ClassId} {base : Nat} {sa : Nat → Nat} {post : Int32 → gMem → Prop} {a0 : Int32} {M : gMem} (h : wp_DI_partNamedBy post a0 M) : GC gLay gCl D ta base gNw sa gTabs gTs l y_DI_partNamedBy b_DI_partNamedBy 6 (some .int) 5 109 [.ref (base + 33), .int a0] M (gPi post) := by
  refine GC.of (own := "ObjectFile$Directory") pn_DI rfl (Nat.le_of_ble_eq_true rfl) ?_
  intro p e s m below meth c X hK hr hlk
  have r_40 : ∀ (n : Nat) (v4 : Int32) (v5 : Int32) (M : gMem), wl_DI_partNamedBy_40 post n v4 v5 M → GMx D ta base p l e 5 109 s m [.ref (base + 33), .int a0] below meth c (gPi post) 6 40 [(0, .ref (base + 33)), (4, .int v4), (5, .int v5)] [] M := by
    intro n
    induction n with
    | zero => exact fun _ _ M h => h.elim
    | succ n ih =>
      intro v4 v5 M h
      refine g_iload X dDI_partNamedBy_40 2 rfl ?_
      refine g_bipush X (v := (11 : Int32)) dDI_partNamedBy_42 (by decide) ?_
      refine g_icmp_ge X dDI_partNamedBy_44 (fun c => ?_) (fun c => ?_)
      · have h := h.1 c
        refine g_iconst X (v := (-1 : Int32)) dDI_partNamedBy_70 (by decide) ?_
        exact g_iret X hr hlk dDI_partNamedBy_71 ⟨_, rfl, h⟩
      · have h := h.2 c
        refine g_aload_n X dDI_partNamedBy_47 rfl 0 rfl ?_
        refine g_iload X dDI_partNamedBy_48 1 rfl ?_
        refine g_iload X dDI_partNamedBy_50 2 rfl ?_
        refine g_callSN X hK gTs_ok mw_OF_labelOf nw_728 mt_OF_labelOf (As := [.int v5]) rfl ⟨(Nat.le_of_ble_eq_true rfl), (Nat.le_of_ble_eq_true rfl), Nat.le_refl _, Nat.le_refl _⟩ (m_OF_labelOf h) (rest := [.int v4, .ref (base + 33)]) rfl (Nat.le_of_ble_eq_true rfl) dDI_partNamedBy_52 (gk_s (fun r8 M9 h => ?_))
        refine g_callV X hK gTs_ok ly_33 rfl mw_DI_standsAt tw_729 mi_DI_standsAt ms_DI_standsAt (As := [.int v4, .ref (sa (100 + r8))]) rfl ⟨(Nat.le_of_ble_eq_true rfl), (Nat.le_of_ble_eq_true rfl), Nat.le_refl _, Nat.le_refl _⟩ (m_DI_standsAt h) (rest := []) rfl (Nat.le_of_ble_eq_true rfl) dDI_partNamedBy_55 (gk_z (fun r10 M11 h => ?_))
        refine g_if_eq X dDI_partNamedBy_58 (fun c => ?_) (fun c => ?_)
        · have h := h.1 c
          obtain ⟨x12, ex12⟩ : ∃ z : Int32, z = v5 + (1 : Int32) := ⟨_, rfl⟩
          have h := h x12 ex12
          refine g_iinc X (L' := [(5, .int x12), (0, .ref (base + 33)), (4, .int v4)]) (k := 2) dDI_partNamedBy_64 rfl (v := x12) (by rw [ex12]; rfl) (Nat.le_of_ble_eq_true rfl) rfl ?_
          refine g_goto X dDI_partNamedBy_67 ?_
          refine g_sub (L' := [(0, .ref (base + 33)), (4, .int v4), (5, .int x12)]) [1, 2, 0] rfl ?_
          exact ih v4 x12 M11 h
        · have h := h.2 c
          refine g_iload X dDI_partNamedBy_61 2 rfl ?_
          exact g_iret X hr hlk dDI_partNamedBy_63 ⟨_, rfl, h⟩
  refine g_args (L' := [(0, .ref (base + 33)), (1, .int a0)]) rfl ?_
  unfold wp_DI_partNamedBy at h
  refine g_aload_n X dDI_partNamedBy_0 rfl 0 rfl ?_
  refine g_iload_n X dDI_partNamedBy_1 rfl 1 rfl ?_
  refine g_iconst X (v := (0 : Int32)) dDI_partNamedBy_2 (by decide) ?_
  refine g_callV X hK gTs_ok ly_33 rfl mw_DI_numberOf tw_696 mi_DI_numberOf ms_DI_numberOf (As := [.int a0, .int (0 : Int32)]) rfl ⟨(Nat.le_of_ble_eq_true rfl), (Nat.le_of_ble_eq_true rfl), Nat.le_refl _, Nat.le_refl _⟩ (m_DI_numberOf h) (rest := []) rfl (Nat.le_of_ble_eq_true rfl) dDI_partNamedBy_3 (gk_l (fun r1 M2 h => ?_))
  refine g_lstore_n X (L' := [(2, .long r1), (0, .ref (base + 33)), (1, .int a0)]) dDI_partNamedBy_6 rfl (Nat.le_of_ble_eq_true rfl) rfl ?_
  refine g_lload_n X dDI_partNamedBy_7 rfl 0 rfl ?_
  refine g_aload_n X dDI_partNamedBy_8 rfl 1 rfl ?_
  refine g_aload_n X dDI_partNamedBy_9 rfl 1 rfl ?_
  refine g_geti X hK.1 fw_DI_64 ly_33 rfl dDI_partNamedBy_10 ?_
  refine g_iconst X (v := (5 : Int32)) dDI_partNamedBy_13 (by decide) ?_
  refine g_callV X hK gTs_ok ly_33 rfl mw_DI_numberOf tw_696 mi_DI_numberOf ms_DI_numberOf (As := [.int (M2 33 9), .int (5 : Int32)]) rfl ⟨(Nat.le_of_ble_eq_true rfl), (Nat.le_of_ble_eq_true rfl), Nat.le_refl _, Nat.le_refl _⟩ (m_DI_numberOf h) (rest := [.long r1]) rfl (Nat.le_of_ble_eq_true rfl) dDI_partNamedBy_14 (gk_l (fun r3 M4 h => ?_))
  refine g_lif_lt X dDI_partNamedBy_17 dDI_partNamedBy_18 (fun c => ?_) (fun c => ?_)
  · have h := h.1 c
    refine g_aload_n X dDI_partNamedBy_23 rfl 1 rfl ?_
    refine g_aload_n X dDI_partNamedBy_24 rfl 1 rfl ?_
    refine g_geti X hK.1 fw_DI_64 ly_33 rfl dDI_partNamedBy_25 ?_
    refine g_iconst X (v := (4 : Int32)) dDI_partNamedBy_28 (by decide) ?_
    refine g_callV X hK gTs_ok ly_33 rfl mw_DI_numberOf tw_696 mi_DI_numberOf ms_DI_numberOf (As := [.int (M4 33 9), .int (4 : Int32)]) rfl ⟨(Nat.le_of_ble_eq_true rfl), (Nat.le_of_ble_eq_true rfl), Nat.le_refl _, Nat.le_refl _⟩ (m_DI_numberOf h) (rest := []) rfl (Nat.le_of_ble_eq_true rfl) dDI_partNamedBy_29 (gk_l (fun r5 M6 h => ?_))
    refine g_lload_n X dDI_partNamedBy_32 rfl 0 rfl ?_
    refine g_ladd X dDI_partNamedBy_33 ?_
    refine g_l2i X dDI_partNamedBy_34 rfl ?_
    refine g_topi (fun x7 ex7 => ?_)
    have h := h x7 ex7
    refine g_istore X (L' := [(4, .int x7), (2, .long r1), (0, .ref (base + 33)), (1, .int a0)]) dDI_partNamedBy_35 (Nat.le_of_ble_eq_true rfl) rfl ?_
    refine g_iconst X (v := (0 : Int32)) dDI_partNamedBy_37 (by decide) ?_
    refine g_istore X (L' := [(5, .int (0 : Int32)), (4, .int x7), (2, .long r1), (0, .ref (base + 33)), (1, .int a0)]) dDI_partNamedBy_38 (Nat.le_of_ble_eq_true rfl) rfl ?_
    refine g_sub (L' := [(0, .ref (base + 33)), (4, .int x7), (5, .int (0 : Int32))]) [3, 1, 0] rfl ?_
    obtain ⟨n9, h⟩ := h
    exact r_40 n9 x7 (0 : Int32) M6 h
  · have h := h.2 c
    refine g_iconst X (v := (-1 : Int32)) dDI_partNamedBy_21 (by decide) ?_
    exact g_iret X hr hlk dDI_partNamedBy_22 ⟨_, rfl, h⟩
set_option maxRecDepth 100000 in
set_option maxHeartbeats 4000000 in
theorem m_DI_labelsFault {l : Launch} {D : va_G} {ta : Nat → ClassId} {base : Nat} {sa : Nat → Nat} {post : Int32 → gMem → Prop} {M : gMem} (h : wp_DI_labelsFault post M) : GC gLay gCl D ta base gNw sa gTabs gTs l y_DI_labelsFault b_DI_labelsFault 3 (some .int) 6 134 [.ref (base + 33)] M (gPi post) := by
  refine GC.of (own := "ObjectFile$Directory") pn_DI rfl (Nat.le_of_ble_eq_true rfl) ?_
  intro p e s m below meth c X hK hr hlk
  have r_10 : ∀ (n : Nat) (v1 : Int32) (M : gMem), wl_DI_labelsFault_10 post n v1 M → GMx D ta base p l e 6 134 s m [.ref (base + 33)] below meth c (gPi post) 3 10 [(0, .ref (base + 33)), (1, .int v1)] [] M := by
    intro n
    induction n with
    | zero => exact fun _ M h => h.elim
    | succ n ih =>
      intro v1 M h
      refine g_iload_n X dDI_labelsFault_10 rfl 1 rfl ?_
      refine g_aload_n X dDI_labelsFault_11 rfl 0 rfl ?_
      refine g_geti X hK.1 fw_DI_51 ly_33 rfl dDI_labelsFault_12 ?_
      refine g_icmp_ge X dDI_labelsFault_15 (fun c => ?_) (fun c => ?_)
      · have h := h.1 c
        refine g_iconst X (v := (0 : Int32)) dDI_labelsFault_73 (by decide) ?_
        exact g_iret X hr hlk dDI_labelsFault_74 ⟨_, rfl, h⟩
      · have h := h.2 c
        refine g_iload_n X dDI_labelsFault_18 rfl 1 rfl ?_
        refine g_bipush X (v := (16 : Int32)) dDI_labelsFault_19 (by decide) ?_
        refine g_icmp_ge X dDI_labelsFault_21 (fun c => ?_) (fun c => ?_)
        · have h := h.1 c
          refine g_iconst X (v := (0 : Int32)) dDI_labelsFault_73 (by decide) ?_
          exact g_iret X hr hlk dDI_labelsFault_74 ⟨_, rfl, h⟩
        · have h := h.2 c
          refine g_aload_n X dDI_labelsFault_24 rfl 0 rfl ?_
          refine g_iload_n X dDI_labelsFault_25 rfl 1 rfl ?_
          refine g_callV X hK gTs_ok ly_33 rfl mw_DI_partNamedBy tw_724 mi_DI_partNamedBy ms_DI_partNamedBy (As := [.int v1]) rfl ⟨(Nat.le_of_ble_eq_true rfl), (Nat.le_of_ble_eq_true rfl), Nat.le_refl _, Nat.le_refl _⟩ (m_DI_partNamedBy h) (rest := []) rfl (Nat.le_of_ble_eq_true rfl) dDI_labelsFault_26 (gk_i (fun r3 M4 h => ?_))
          refine g_istore_n X (L' := [(2, .int r3), (0, .ref (base + 33)), (1, .int v1)]) dDI_labelsFault_29 rfl (Nat.le_of_ble_eq_true rfl) rfl ?_
          refine g_iload_n X dDI_labelsFault_30 rfl 0 rfl ?_
          refine g_iconst X (v := (-1 : Int32)) dDI_labelsFault_31 (by decide) ?_
          refine g_icmp_eq X dDI_labelsFault_32 (fun c => ?_) (fun c => ?_)
          · have h := h.1 c
            refine g_aload_n X dDI_labelsFault_44 rfl 1 rfl ?_
            refine g_bipush X (v := (16 : Int32)) dDI_labelsFault_45 (by decide) ?_
            refine g_iload_n X dDI_labelsFault_47 rfl 2 rfl ?_
            refine g_iconst X (v := (0 : Int32)) dDI_labelsFault_48 (by decide) ?_
            refine g_callV X hK gTs_ok ly_33 rfl mw_DI_tellEntry tw_700 mi_DI_tellEntry ms_DI_tellEntry (As := [.int (16 : Int32), .int v1, .int (0 : Int32)]) rfl ⟨(Nat.le_of_ble_eq_true rfl), (Nat.le_of_ble_eq_true rfl), Nat.le_refl _, Nat.le_refl _⟩ (m_DI_tellEntry h) (rest := []) rfl (Nat.le_of_ble_eq_true rfl) dDI_labelsFault_49 (gk_i (fun r5 M6 h => ?_))
            exact g_iret X hr hlk dDI_labelsFault_52 ⟨_, rfl, h⟩
          · have h := h.2 c
            refine g_aload_n X dDI_labelsFault_35 rfl 1 rfl ?_
            refine g_getr X hK.1 fw_DI_15 ly_33 rfl dDI_labelsFault_36 ?_
            refine g_iload_n X dDI_labelsFault_39 rfl 0 rfl ?_
            obtain ⟨hi, h⟩ := h
            refine g_iald X hK.1 ly_35 hi dDI_labelsFault_40 ?_
            refine g_if_eq X dDI_labelsFault_41 (fun c => ?_) (fun c => ?_)
            · have h := h.1 c
              refine g_aload_n X dDI_labelsFault_53 rfl 1 rfl ?_
              refine g_getr X hK.1 fw_DI_15 ly_33 rfl dDI_labelsFault_54 ?_
              refine g_iload_n X dDI_labelsFault_57 rfl 0 rfl ?_
              refine g_iload_n X dDI_labelsFault_58 rfl 2 rfl ?_
              obtain ⟨hi, h⟩ := h
              refine g_iast X hK.1 ly_35 hi dDI_labelsFault_59 ?_
              refine g_topM (fun M7 eM7 => ?_)
              have h := h M7 eM7
              refine g_aload_n X dDI_labelsFault_60 rfl 1 rfl ?_
              refine g_getr X hK.1 fw_DI_9 ly_33 rfl dDI_labelsFault_61 ?_
              refine g_iload_n X dDI_labelsFault_64 rfl 2 rfl ?_
              refine g_iload_n X dDI_labelsFault_65 rfl 0 rfl ?_
              obtain ⟨hi, h⟩ := h
              refine g_iast X hK.1 ly_34 hi dDI_labelsFault_66 ?_
              refine g_topM (fun M8 eM8 => ?_)
              have h := h M8 eM8
              obtain ⟨x9, ex9⟩ : ∃ z : Int32, z = v1 + (1 : Int32) := ⟨_, rfl⟩
              have h := h x9 ex9
              refine g_iinc X (L' := [(1, .int x9), (2, .int r3), (0, .ref (base + 33))]) (k := 2) dDI_labelsFault_67 rfl (v := x9) (by rw [ex9]; rfl) (Nat.le_of_ble_eq_true rfl) rfl ?_
              refine g_goto X dDI_labelsFault_70 ?_
              refine g_sub (L' := [(0, .ref (base + 33)), (1, .int x9)]) [2, 0] rfl ?_
              exact ih x9 M8 h
            · have h := h.2 c
              refine g_aload_n X dDI_labelsFault_44 rfl 1 rfl ?_
              refine g_bipush X (v := (16 : Int32)) dDI_labelsFault_45 (by decide) ?_
              refine g_iload_n X dDI_labelsFault_47 rfl 2 rfl ?_
              refine g_iconst X (v := (0 : Int32)) dDI_labelsFault_48 (by decide) ?_
              refine g_callV X hK gTs_ok ly_33 rfl mw_DI_tellEntry tw_700 mi_DI_tellEntry ms_DI_tellEntry (As := [.int (16 : Int32), .int v1, .int (0 : Int32)]) rfl ⟨(Nat.le_of_ble_eq_true rfl), (Nat.le_of_ble_eq_true rfl), Nat.le_refl _, Nat.le_refl _⟩ (m_DI_tellEntry h) (rest := []) rfl (Nat.le_of_ble_eq_true rfl) dDI_labelsFault_49 (gk_i (fun r10 M11 h => ?_))
              exact g_iret X hr hlk dDI_labelsFault_52 ⟨_, rfl, h⟩
  refine g_args (L' := [(0, .ref (base + 33))]) rfl ?_
  unfold wp_DI_labelsFault at h
  refine g_aload_n X dDI_labelsFault_0 rfl 0 rfl ?_
  refine g_getr X hK.1 fw_DI_15 ly_33 rfl dDI_labelsFault_1 ?_
  refine g_iconst X (v := (0 : Int32)) dDI_labelsFault_4 (by decide) ?_
  refine g_callS X hK gTs_ok mw_AR_fill1 tw_723 mt_AR_fill1 (As := [.ref (base + 35), .int (0 : Int32)]) rfl ⟨(Nat.le_of_ble_eq_true rfl), (Nat.le_of_ble_eq_true rfl), Nat.le_refl _, Nat.le_refl _⟩ (m_AR_fill1_35 h) (rest := []) rfl (Nat.le_of_ble_eq_true rfl) dDI_labelsFault_5 (gk_v (fun M2 h => ?_))
  refine g_iconst X (v := (1 : Int32)) dDI_labelsFault_8 (by decide) ?_
  refine g_istore_n X (L' := [(1, .int (1 : Int32)), (0, .ref (base + 33))]) dDI_labelsFault_9 rfl (Nat.le_of_ble_eq_true rfl) rfl ?_
  refine g_sub (L' := [(0, .ref (base + 33)), (1, .int (1 : Int32))]) [1, 0] rfl ?_
  obtain ⟨n9, h⟩ := h
  exact r_10 n9 (1 : Int32) M2 h
set_option maxRecDepth 100000 in
set_option maxHeartbeats 4000000 in
theorem m_DI_linkIsRight {l : Launch} {D : va_G} {ta : Nat → ClassId} {base : Nat} {sa : Nat → Nat} {post : Bool → gMem → Prop} {a0 : Int32} {a1 : Int64} {M : gMem} (h : wp_DI_linkIsRight post a0 a1 M) : GC gLay gCl D ta base gNw sa gTabs gTs l y_DI_linkIsRight b_DI_linkIsRight 4 (some .boolean) 1 20 [.ref (base + 33), .int a0, .long a1] M (gPz post) := by
  refine GC.of (own := "ObjectFile$Directory") pn_DI rfl (Nat.le_of_ble_eq_true rfl) ?_
  intro p e s m below meth c X hK hr hlk
  refine g_args (L' := [(0, .ref (base + 33)), (1, .int a0), (2, .long a1)]) rfl ?_
  unfold wp_DI_linkIsRight at h
  refine g_iload_n X dDI_linkIsRight_0 rfl 1 rfl ?_
  refine g_callSN X hK gTs_ok mw_OF_isRela nw_749 mt_OF_isRela (As := [.int a0]) rfl ⟨(Nat.le_of_ble_eq_true rfl), (Nat.le_of_ble_eq_true rfl), Nat.le_refl _, Nat.le_refl _⟩ (m_OF_isRela h) (rest := []) rfl (Nat.le_of_ble_eq_true rfl) dDI_linkIsRight_1 (gk_z (fun r1 M2 h => ?_))
  refine g_if_eq X dDI_linkIsRight_4 (fun c => ?_) (fun c => ?_)
  · have h := h.1 c
    refine g_iload_n X dDI_linkIsRight_32 rfl 1 rfl ?_
    refine g_bipush X (v := (8 : Int32)) dDI_linkIsRight_33 (by decide) ?_
    refine g_icmp_ne X dDI_linkIsRight_35 (fun c => ?_) (fun c => ?_)
    · have h := h.1 c
      refine g_lload_n X dDI_linkIsRight_65 rfl 2 rfl ?_
      refine g_lconst X (v := (0 : Int64)) dDI_linkIsRight_66 (by decide) ?_
      refine g_lif_ne X dDI_linkIsRight_67 dDI_linkIsRight_68 (fun c => ?_) (fun c => ?_)
      · have h := h.1 c
        refine g_iconst X (v := (0 : Int32)) dDI_linkIsRight_75 (by decide) ?_
        exact g_zret X hr hlk (by decide) dDI_linkIsRight_76 ⟨false, rfl, h⟩
      · have h := h.2 c
        refine g_iconst X (v := (1 : Int32)) dDI_linkIsRight_71 (by decide) ?_
        refine g_goto X dDI_linkIsRight_72 ?_
        exact g_zret X hr hlk (by decide) dDI_linkIsRight_76 ⟨true, rfl, h⟩
    · have h := h.2 c
      refine g_lload_n X dDI_linkIsRight_38 rfl 2 rfl ?_
      refine g_lconst X (v := (0 : Int64)) dDI_linkIsRight_39 (by decide) ?_
      refine g_lif_eq X dDI_linkIsRight_40 dDI_linkIsRight_41 (fun c => ?_) (fun c => ?_)
      · have h := h.1 c
        refine g_iconst X (v := (0 : Int32)) dDI_linkIsRight_61 (by decide) ?_
        refine g_goto X dDI_linkIsRight_62 ?_
        exact g_zret X hr hlk (by decide) dDI_linkIsRight_76 ⟨false, rfl, h⟩
      · have h := h.2 c
        refine g_lload_n X dDI_linkIsRight_44 rfl 2 rfl ?_
        refine g_aload_n X dDI_linkIsRight_45 rfl 0 rfl ?_
        refine g_getr X hK.1 fw_DI_15 ly_33 rfl dDI_linkIsRight_46 ?_
        refine g_bipush X (v := (9 : Int32)) dDI_linkIsRight_49 (by decide) ?_
        obtain ⟨hi, h⟩ := h
        refine g_iald X hK.1 ly_35 hi dDI_linkIsRight_51 ?_
        refine g_i2l X dDI_linkIsRight_52 rfl ?_
        refine g_lif_ne X dDI_linkIsRight_53 dDI_linkIsRight_54 (fun c => ?_) (fun c => ?_)
        · have h := h.1 c
          refine g_iconst X (v := (0 : Int32)) dDI_linkIsRight_61 (by decide) ?_
          refine g_goto X dDI_linkIsRight_62 ?_
          exact g_zret X hr hlk (by decide) dDI_linkIsRight_76 ⟨false, rfl, h⟩
        · have h := h.2 c
          refine g_iconst X (v := (1 : Int32)) dDI_linkIsRight_57 (by decide) ?_
          refine g_goto X dDI_linkIsRight_58 ?_
          exact g_zret X hr hlk (by decide) dDI_linkIsRight_76 ⟨true, rfl, h⟩
  · have h := h.2 c
    refine g_lload_n X dDI_linkIsRight_7 rfl 2 rfl ?_
    refine g_lconst X (v := (0 : Int64)) dDI_linkIsRight_8 (by decide) ?_
    refine g_lif_eq X dDI_linkIsRight_9 dDI_linkIsRight_10 (fun c => ?_) (fun c => ?_)
    · have h := h.1 c
      refine g_iconst X (v := (0 : Int32)) dDI_linkIsRight_30 (by decide) ?_
      exact g_zret X hr hlk (by decide) dDI_linkIsRight_31 ⟨false, rfl, h⟩
    · have h := h.2 c
      refine g_lload_n X dDI_linkIsRight_13 rfl 2 rfl ?_
      refine g_aload_n X dDI_linkIsRight_14 rfl 0 rfl ?_
      refine g_getr X hK.1 fw_DI_15 ly_33 rfl dDI_linkIsRight_15 ?_
      refine g_bipush X (v := (8 : Int32)) dDI_linkIsRight_18 (by decide) ?_
      obtain ⟨hi, h⟩ := h
      refine g_iald X hK.1 ly_35 hi dDI_linkIsRight_20 ?_
      refine g_i2l X dDI_linkIsRight_21 rfl ?_
      refine g_lif_ne X dDI_linkIsRight_22 dDI_linkIsRight_23 (fun c => ?_) (fun c => ?_)
      · have h := h.1 c
        refine g_iconst X (v := (0 : Int32)) dDI_linkIsRight_30 (by decide) ?_
        exact g_zret X hr hlk (by decide) dDI_linkIsRight_31 ⟨false, rfl, h⟩
      · have h := h.2 c
        refine g_iconst X (v := (1 : Int32)) dDI_linkIsRight_26 (by decide) ?_
        refine g_goto X dDI_linkIsRight_27 ?_
        exact g_zret X hr hlk (by decide) dDI_linkIsRight_31 ⟨true, rfl, h⟩
set_option maxRecDepth 100000 in
set_option maxHeartbeats 4000000 in
theorem m_DI_infoIsRight {l : Launch} {D : va_G} {ta : Nat → ClassId} {base : Nat} {sa : Nat → Nat} {post : Bool → gMem → Prop} {a0 : Int32} {a1 : Int64} {M : gMem} (h : wp_DI_infoIsRight post a0 a1 M) : GC gLay gCl D ta base gNw sa gTabs gTs l y_DI_infoIsRight b_DI_infoIsRight 4 (some .boolean) 1 20 [.ref (base + 33), .int a0, .long a1] M (gPz post) := by
  refine GC.of (own := "ObjectFile$Directory") pn_DI rfl (Nat.le_of_ble_eq_true rfl) ?_
  intro p e s m below meth c X hK hr hlk
  refine g_args (L' := [(0, .ref (base + 33)), (1, .int a0), (2, .long a1)]) rfl ?_
  unfold wp_DI_infoIsRight at h
  refine g_iload_n X dDI_infoIsRight_0 rfl 1 rfl ?_
  refine g_callSN X hK gTs_ok mw_OF_isRela nw_749 mt_OF_isRela (As := [.int a0]) rfl ⟨(Nat.le_of_ble_eq_true rfl), (Nat.le_of_ble_eq_true rfl), Nat.le_refl _, Nat.le_refl _⟩ (m_OF_isRela h) (rest := []) rfl (Nat.le_of_ble_eq_true rfl) dDI_infoIsRight_1 (gk_z (fun r1 M2 h => ?_))
  refine g_if_eq X dDI_infoIsRight_4 (fun c => ?_) (fun c => ?_)
  · have h := h.1 c
    refine g_iload_n X dDI_infoIsRight_33 rfl 1 rfl ?_
    refine g_bipush X (v := (8 : Int32)) dDI_infoIsRight_34 (by decide) ?_
    refine g_icmp_eq X dDI_infoIsRight_36 (fun c => ?_) (fun c => ?_)
    · have h := h.1 c
      refine g_iconst X (v := (1 : Int32)) dDI_infoIsRight_45 (by decide) ?_
      refine g_goto X dDI_infoIsRight_46 ?_
      exact g_zret X hr hlk (by decide) dDI_infoIsRight_50 ⟨true, rfl, h⟩
    · have h := h.2 c
      refine g_lload_n X dDI_infoIsRight_39 rfl 2 rfl ?_
      refine g_lconst X (v := (0 : Int64)) dDI_infoIsRight_40 (by decide) ?_
      refine g_lif_ne X dDI_infoIsRight_41 dDI_infoIsRight_42 (fun c => ?_) (fun c => ?_)
      · have h := h.1 c
        refine g_iconst X (v := (0 : Int32)) dDI_infoIsRight_49 (by decide) ?_
        exact g_zret X hr hlk (by decide) dDI_infoIsRight_50 ⟨false, rfl, h⟩
      · have h := h.2 c
        refine g_iconst X (v := (1 : Int32)) dDI_infoIsRight_45 (by decide) ?_
        refine g_goto X dDI_infoIsRight_46 ?_
        exact g_zret X hr hlk (by decide) dDI_infoIsRight_50 ⟨true, rfl, h⟩
  · have h := h.2 c
    refine g_lload_n X dDI_infoIsRight_7 rfl 2 rfl ?_
    refine g_lconst X (v := (0 : Int64)) dDI_infoIsRight_8 (by decide) ?_
    refine g_lif_eq X dDI_infoIsRight_9 dDI_infoIsRight_10 (fun c => ?_) (fun c => ?_)
    · have h := h.1 c
      refine g_iconst X (v := (0 : Int32)) dDI_infoIsRight_31 (by decide) ?_
      exact g_zret X hr hlk (by decide) dDI_infoIsRight_32 ⟨false, rfl, h⟩
    · have h := h.2 c
      refine g_lload_n X dDI_infoIsRight_13 rfl 2 rfl ?_
      refine g_aload_n X dDI_infoIsRight_14 rfl 0 rfl ?_
      refine g_getr X hK.1 fw_DI_15 ly_33 rfl dDI_infoIsRight_15 ?_
      refine g_iload_n X dDI_infoIsRight_18 rfl 1 rfl ?_
      refine g_iconst X (v := (5 : Int32)) dDI_infoIsRight_19 (by decide) ?_
      refine g_isub X dDI_infoIsRight_20 ?_
      obtain ⟨hi, h⟩ := h
      refine g_iald X hK.1 ly_35 hi dDI_infoIsRight_21 ?_
      refine g_i2l X dDI_infoIsRight_22 rfl ?_
      refine g_lif_ne X dDI_infoIsRight_23 dDI_infoIsRight_24 (fun c => ?_) (fun c => ?_)
      · have h := h.1 c
        refine g_iconst X (v := (0 : Int32)) dDI_infoIsRight_31 (by decide) ?_
        exact g_zret X hr hlk (by decide) dDI_infoIsRight_32 ⟨false, rfl, h⟩
      · have h := h.2 c
        refine g_iconst X (v := (1 : Int32)) dDI_infoIsRight_27 (by decide) ?_
        refine g_goto X dDI_infoIsRight_28 ?_
        exact g_zret X hr hlk (by decide) dDI_infoIsRight_32 ⟨true, rfl, h⟩
set_option maxRecDepth 100000 in
set_option maxHeartbeats 4000000 in
theorem m_DI_wrongNumber {l : Launch} {D : va_G} {ta : Nat → ClassId} {base : Nat} {sa : Nat → Nat} {post : Int32 → gMem → Prop} {a0 : Int32} {a1 : Int32} {M : gMem} (h : wp_DI_wrongNumber post a0 a1 M) : GC gLay gCl D ta base gNw sa gTabs gTs l y_DI_wrongNumber b_DI_wrongNumber 3 (some .int) 2 45 [.ref (base + 33), .int a0, .int a1] M (gPi post) := by
  refine GC.of (own := "ObjectFile$Directory") pn_DI rfl (Nat.le_of_ble_eq_true rfl) ?_
  intro p e s m below meth c X hK hr hlk
  refine g_args (L' := [(0, .ref (base + 33)), (1, .int a0), (2, .int a1)]) rfl ?_
  unfold wp_DI_wrongNumber at h
  refine g_aload_n X dDI_wrongNumber_0 rfl 0 rfl ?_
  refine g_iload_n X dDI_wrongNumber_1 rfl 1 rfl ?_
  refine g_iconst X (v := (1 : Int32)) dDI_wrongNumber_2 (by decide) ?_
  refine g_callV X hK gTs_ok ly_33 rfl mw_DI_numberOf tw_696 mi_DI_numberOf ms_DI_numberOf (As := [.int a0, .int (1 : Int32)]) rfl ⟨(Nat.le_of_ble_eq_true rfl), (Nat.le_of_ble_eq_true rfl), Nat.le_refl _, Nat.le_refl _⟩ (m_DI_numberOf h) (rest := []) rfl (Nat.le_of_ble_eq_true rfl) dDI_wrongNumber_3 (gk_l (fun r1 M2 h => ?_))
  refine g_getsN X hK (j := 3) rfl nw_743 dDI_wrongNumber_6 ?_
  refine g_iload_n X dDI_wrongNumber_9 rfl 2 rfl ?_
  obtain ⟨hi, h⟩ := h
  refine g_tald X hK (j := 3) rfl rfl hi dDI_wrongNumber_10 ?_
  refine g_i2l X dDI_wrongNumber_11 rfl ?_
  refine g_lif_eq X dDI_wrongNumber_12 dDI_wrongNumber_13 (fun c => ?_) (fun c => ?_)
  · have h := h.1 c
    refine g_aload_n X dDI_wrongNumber_18 rfl 0 rfl ?_
    refine g_iload_n X dDI_wrongNumber_19 rfl 1 rfl ?_
    refine g_iconst X (v := (2 : Int32)) dDI_wrongNumber_20 (by decide) ?_
    refine g_callV X hK gTs_ok ly_33 rfl mw_DI_numberOf tw_696 mi_DI_numberOf ms_DI_numberOf (As := [.int a0, .int (2 : Int32)]) rfl ⟨(Nat.le_of_ble_eq_true rfl), (Nat.le_of_ble_eq_true rfl), Nat.le_refl _, Nat.le_refl _⟩ (m_DI_numberOf h) (rest := []) rfl (Nat.le_of_ble_eq_true rfl) dDI_wrongNumber_21 (gk_l (fun r3 M4 h => ?_))
    refine g_getsN X hK (j := 1) rfl nw_744 dDI_wrongNumber_24 ?_
    refine g_iload_n X dDI_wrongNumber_27 rfl 2 rfl ?_
    obtain ⟨hi, h⟩ := h
    refine g_tald X hK (j := 1) rfl rfl hi dDI_wrongNumber_28 ?_
    refine g_i2l X dDI_wrongNumber_29 rfl ?_
    refine g_lif_eq X dDI_wrongNumber_30 dDI_wrongNumber_31 (fun c => ?_) (fun c => ?_)
    · have h := h.1 c
      refine g_aload_n X dDI_wrongNumber_36 rfl 0 rfl ?_
      refine g_iload_n X dDI_wrongNumber_37 rfl 1 rfl ?_
      refine g_iconst X (v := (3 : Int32)) dDI_wrongNumber_38 (by decide) ?_
      refine g_callV X hK gTs_ok ly_33 rfl mw_DI_numberOf tw_696 mi_DI_numberOf ms_DI_numberOf (As := [.int a0, .int (3 : Int32)]) rfl ⟨(Nat.le_of_ble_eq_true rfl), (Nat.le_of_ble_eq_true rfl), Nat.le_refl _, Nat.le_refl _⟩ (m_DI_numberOf h) (rest := []) rfl (Nat.le_of_ble_eq_true rfl) dDI_wrongNumber_39 (gk_l (fun r5 M6 h => ?_))
      refine g_lconst X (v := (0 : Int64)) dDI_wrongNumber_42 (by decide) ?_
      refine g_lif_eq X dDI_wrongNumber_43 dDI_wrongNumber_44 (fun c => ?_) (fun c => ?_)
      · have h := h.1 c
        refine g_aload_n X dDI_wrongNumber_49 rfl 0 rfl ?_
        refine g_iload_n X dDI_wrongNumber_50 rfl 2 rfl ?_
        refine g_aload_n X dDI_wrongNumber_51 rfl 0 rfl ?_
        refine g_iload_n X dDI_wrongNumber_52 rfl 1 rfl ?_
        refine g_bipush X (v := (6 : Int32)) dDI_wrongNumber_53 (by decide) ?_
        refine g_callV X hK gTs_ok ly_33 rfl mw_DI_numberOf tw_696 mi_DI_numberOf ms_DI_numberOf (As := [.int a0, .int (6 : Int32)]) rfl ⟨(Nat.le_of_ble_eq_true rfl), (Nat.le_of_ble_eq_true rfl), Nat.le_refl _, Nat.le_refl _⟩ (m_DI_numberOf h) (rest := [.int a1, .ref (base + 33)]) rfl (Nat.le_of_ble_eq_true rfl) dDI_wrongNumber_55 (gk_l (fun r7 M8 h => ?_))
        refine g_callV X hK gTs_ok ly_33 rfl mw_DI_linkIsRight tw_745 mi_DI_linkIsRight ms_DI_linkIsRight (As := [.int a1, .long r7]) rfl ⟨(Nat.le_of_ble_eq_true rfl), (Nat.le_of_ble_eq_true rfl), Nat.le_refl _, Nat.le_refl _⟩ (m_DI_linkIsRight h) (rest := []) rfl (Nat.le_of_ble_eq_true rfl) dDI_wrongNumber_58 (gk_z (fun r9 M10 h => ?_))
        refine g_if_ne X dDI_wrongNumber_61 (fun c => ?_) (fun c => ?_)
        · have h := h.1 c
          refine g_aload_n X dDI_wrongNumber_67 rfl 0 rfl ?_
          refine g_iload_n X dDI_wrongNumber_68 rfl 2 rfl ?_
          refine g_aload_n X dDI_wrongNumber_69 rfl 0 rfl ?_
          refine g_iload_n X dDI_wrongNumber_70 rfl 1 rfl ?_
          refine g_bipush X (v := (7 : Int32)) dDI_wrongNumber_71 (by decide) ?_
          refine g_callV X hK gTs_ok ly_33 rfl mw_DI_numberOf tw_696 mi_DI_numberOf ms_DI_numberOf (As := [.int a0, .int (7 : Int32)]) rfl ⟨(Nat.le_of_ble_eq_true rfl), (Nat.le_of_ble_eq_true rfl), Nat.le_refl _, Nat.le_refl _⟩ (m_DI_numberOf h) (rest := [.int a1, .ref (base + 33)]) rfl (Nat.le_of_ble_eq_true rfl) dDI_wrongNumber_73 (gk_l (fun r11 M12 h => ?_))
          refine g_callV X hK gTs_ok ly_33 rfl mw_DI_infoIsRight tw_750 mi_DI_infoIsRight ms_DI_infoIsRight (As := [.int a1, .long r11]) rfl ⟨(Nat.le_of_ble_eq_true rfl), (Nat.le_of_ble_eq_true rfl), Nat.le_refl _, Nat.le_refl _⟩ (m_DI_infoIsRight h) (rest := []) rfl (Nat.le_of_ble_eq_true rfl) dDI_wrongNumber_76 (gk_z (fun r13 M14 h => ?_))
          refine g_if_ne X dDI_wrongNumber_79 (fun c => ?_) (fun c => ?_)
          · have h := h.1 c
            refine g_aload_n X dDI_wrongNumber_85 rfl 0 rfl ?_
            refine g_iload_n X dDI_wrongNumber_86 rfl 1 rfl ?_
            refine g_bipush X (v := (9 : Int32)) dDI_wrongNumber_87 (by decide) ?_
            refine g_callV X hK gTs_ok ly_33 rfl mw_DI_numberOf tw_696 mi_DI_numberOf ms_DI_numberOf (As := [.int a0, .int (9 : Int32)]) rfl ⟨(Nat.le_of_ble_eq_true rfl), (Nat.le_of_ble_eq_true rfl), Nat.le_refl _, Nat.le_refl _⟩ (m_DI_numberOf h) (rest := []) rfl (Nat.le_of_ble_eq_true rfl) dDI_wrongNumber_89 (gk_l (fun r15 M16 h => ?_))
            refine g_getsN X hK (j := 4) rfl nw_754 dDI_wrongNumber_92 ?_
            refine g_iload_n X dDI_wrongNumber_95 rfl 2 rfl ?_
            obtain ⟨hi, h⟩ := h
            refine g_tald X hK (j := 4) rfl rfl hi dDI_wrongNumber_96 ?_
            refine g_i2l X dDI_wrongNumber_97 rfl ?_
            refine g_lif_eq X dDI_wrongNumber_98 dDI_wrongNumber_99 (fun c => ?_) (fun c => ?_)
            · have h := h.1 c
              refine g_iconst X (v := (-1 : Int32)) dDI_wrongNumber_107 (by decide) ?_
              exact g_iret X hr hlk dDI_wrongNumber_108 ⟨_, rfl, h⟩
            · have h := h.2 c
              refine g_bipush X (v := (9 : Int32)) dDI_wrongNumber_102 (by decide) ?_
              refine g_goto X dDI_wrongNumber_104 ?_
              exact g_iret X hr hlk dDI_wrongNumber_108 ⟨_, rfl, h⟩
          · have h := h.2 c
            refine g_bipush X (v := (7 : Int32)) dDI_wrongNumber_82 (by decide) ?_
            exact g_iret X hr hlk dDI_wrongNumber_84 ⟨_, rfl, h⟩
        · have h := h.2 c
          refine g_bipush X (v := (6 : Int32)) dDI_wrongNumber_64 (by decide) ?_
          exact g_iret X hr hlk dDI_wrongNumber_66 ⟨_, rfl, h⟩
      · have h := h.2 c
        refine g_iconst X (v := (3 : Int32)) dDI_wrongNumber_47 (by decide) ?_
        exact g_iret X hr hlk dDI_wrongNumber_48 ⟨_, rfl, h⟩
    · have h := h.2 c
      refine g_iconst X (v := (2 : Int32)) dDI_wrongNumber_34 (by decide) ?_
      exact g_iret X hr hlk dDI_wrongNumber_35 ⟨_, rfl, h⟩
  · have h := h.2 c
    refine g_iconst X (v := (1 : Int32)) dDI_wrongNumber_16 (by decide) ?_
    exact g_iret X hr hlk dDI_wrongNumber_17 ⟨_, rfl, h⟩
set_option maxRecDepth 100000 in
set_option maxHeartbeats 4000000 in
theorem m_DI_numbersFault {l : Launch} {D : va_G} {ta : Nat → ClassId} {base : Nat} {sa : Nat → Nat} {post : Int32 → gMem → Prop} {M : gMem} (h : wp_DI_numbersFault post M) : GC gLay gCl D ta base gNw sa gTabs gTs l y_DI_numbersFault b_DI_numbersFault 3 (some .int) 3 67 [.ref (base + 33)] M (gPi post) := by
  refine GC.of (own := "ObjectFile$Directory") pn_DI rfl (Nat.le_of_ble_eq_true rfl) ?_
  intro p e s m below meth c X hK hr hlk
  have r_2 : ∀ (n : Nat) (v1 : Int32) (M : gMem), wl_DI_numbersFault_2 post n v1 M → GMx D ta base p l e 3 67 s m [.ref (base + 33)] below meth c (gPi post) 3 2 [(0, .ref (base + 33)), (1, .int v1)] [] M := by
    intro n
    induction n with
    | zero => exact fun _ M h => h.elim
    | succ n ih =>
      intro v1 M h
      refine g_iload_n X dDI_numbersFault_2 rfl 1 rfl ?_
      refine g_aload_n X dDI_numbersFault_3 rfl 0 rfl ?_
      refine g_geti X hK.1 fw_DI_51 ly_33 rfl dDI_numbersFault_4 ?_
      refine g_icmp_ge X dDI_numbersFault_7 (fun c => ?_) (fun c => ?_)
      · have h := h.1 c
        refine g_iconst X (v := (0 : Int32)) dDI_numbersFault_48 (by decide) ?_
        exact g_iret X hr hlk dDI_numbersFault_49 ⟨_, rfl, h⟩
      · have h := h.2 c
        refine g_iload_n X dDI_numbersFault_10 rfl 1 rfl ?_
        refine g_bipush X (v := (16 : Int32)) dDI_numbersFault_11 (by decide) ?_
        refine g_icmp_ge X dDI_numbersFault_13 (fun c => ?_) (fun c => ?_)
        · have h := h.1 c
          refine g_iconst X (v := (0 : Int32)) dDI_numbersFault_48 (by decide) ?_
          exact g_iret X hr hlk dDI_numbersFault_49 ⟨_, rfl, h⟩
        · have h := h.2 c
          refine g_aload_n X dDI_numbersFault_16 rfl 0 rfl ?_
          refine g_iload_n X dDI_numbersFault_17 rfl 1 rfl ?_
          refine g_aload_n X dDI_numbersFault_18 rfl 0 rfl ?_
          refine g_getr X hK.1 fw_DI_9 ly_33 rfl dDI_numbersFault_19 ?_
          refine g_iload_n X dDI_numbersFault_22 rfl 1 rfl ?_
          obtain ⟨hi, h⟩ := h
          refine g_iald X hK.1 ly_34 hi dDI_numbersFault_23 ?_
          refine g_callV X hK gTs_ok ly_33 rfl mw_DI_wrongNumber tw_739 mi_DI_wrongNumber ms_DI_wrongNumber (As := [.int v1, .int (M 34 (v1).toNatClampNeg)]) rfl ⟨(Nat.le_of_ble_eq_true rfl), (Nat.le_of_ble_eq_true rfl), Nat.le_refl _, Nat.le_refl _⟩ (m_DI_wrongNumber h) (rest := []) rfl (Nat.le_of_ble_eq_true rfl) dDI_numbersFault_24 (gk_i (fun r1 M2 h => ?_))
          refine g_istore_n X (L' := [(2, .int r1), (0, .ref (base + 33)), (1, .int v1)]) dDI_numbersFault_27 rfl (Nat.le_of_ble_eq_true rfl) rfl ?_
          refine g_iload_n X dDI_numbersFault_28 rfl 0 rfl ?_
          refine g_iconst X (v := (-1 : Int32)) dDI_numbersFault_29 (by decide) ?_
          refine g_icmp_eq X dDI_numbersFault_30 (fun c => ?_) (fun c => ?_)
          · have h := h.1 c
            obtain ⟨x3, ex3⟩ : ∃ z : Int32, z = v1 + (1 : Int32) := ⟨_, rfl⟩
            have h := h x3 ex3
            refine g_iinc X (L' := [(1, .int x3), (2, .int r1), (0, .ref (base + 33))]) (k := 2) dDI_numbersFault_42 rfl (v := x3) (by rw [ex3]; rfl) (Nat.le_of_ble_eq_true rfl) rfl ?_
            refine g_goto X dDI_numbersFault_45 ?_
            refine g_sub (L' := [(0, .ref (base + 33)), (1, .int x3)]) [2, 0] rfl ?_
            exact ih x3 M2 h
          · have h := h.2 c
            refine g_aload_n X dDI_numbersFault_33 rfl 1 rfl ?_
            refine g_bipush X (v := (17 : Int32)) dDI_numbersFault_34 (by decide) ?_
            refine g_iload_n X dDI_numbersFault_36 rfl 2 rfl ?_
            refine g_iload_n X dDI_numbersFault_37 rfl 0 rfl ?_
            refine g_callV X hK gTs_ok ly_33 rfl mw_DI_tellEntry tw_700 mi_DI_tellEntry ms_DI_tellEntry (As := [.int (17 : Int32), .int v1, .int r1]) rfl ⟨(Nat.le_of_ble_eq_true rfl), (Nat.le_of_ble_eq_true rfl), Nat.le_refl _, Nat.le_refl _⟩ (m_DI_tellEntry h) (rest := []) rfl (Nat.le_of_ble_eq_true rfl) dDI_numbersFault_38 (gk_i (fun r4 M5 h => ?_))
            exact g_iret X hr hlk dDI_numbersFault_41 ⟨_, rfl, h⟩
  refine g_args (L' := [(0, .ref (base + 33))]) rfl ?_
  unfold wp_DI_numbersFault at h
  refine g_iconst X (v := (1 : Int32)) dDI_numbersFault_0 (by decide) ?_
  refine g_istore_n X (L' := [(1, .int (1 : Int32)), (0, .ref (base + 33))]) dDI_numbersFault_1 rfl (Nat.le_of_ble_eq_true rfl) rfl ?_
  refine g_sub (L' := [(0, .ref (base + 33)), (1, .int (1 : Int32))]) [1, 0] rfl ?_
  obtain ⟨n9, h⟩ := h
  exact r_2 n9 (1 : Int32) M h
set_option maxRecDepth 100000 in
set_option maxHeartbeats 4000000 in
theorem m_DI_missingFault {l : Launch} {D : va_G} {ta : Nat → ClassId} {base : Nat} {sa : Nat → Nat} {post : Int32 → gMem → Prop} {M : gMem} (h : wp_DI_missingFault post M) : GC gLay gCl D ta base gNw sa gTabs gTs l y_DI_missingFault b_DI_missingFault 2 (some .int) 1 22 [.ref (base + 33)] M (gPi post) := by
  refine GC.of (own := "ObjectFile$Directory") pn_DI rfl (Nat.le_of_ble_eq_true rfl) ?_
  intro p e s m below meth c X hK hr hlk
  have r_35 : ∀ (s0 : Int32) (M : gMem), wj_DI_missingFault_35 post s0 M → GMx D ta base p l e 1 22 s m [.ref (base + 33)] below meth c (gPi post) 2 35 [(0, .ref (base + 33))] [.int s0] M := by
    intro s0 M h
    unfold wj_DI_missingFault_35 at h
    refine g_istore_n X (L' := [(1, .int s0), (0, .ref (base + 33))]) dDI_missingFault_35 rfl (Nat.le_of_ble_eq_true rfl) rfl ?_
    refine g_iload_n X dDI_missingFault_36 rfl 0 rfl ?_
    refine g_if_eq X dDI_missingFault_37 (fun c => ?_) (fun c => ?_)
    · have h := h.1 c
      refine g_aload_n X dDI_missingFault_58 rfl 1 rfl ?_
      refine g_getr X hK.1 fw_DI_31 ly_33 rfl dDI_missingFault_59 ?_
      refine g_bipush X (v := (18 : Int32)) dDI_missingFault_62 (by decide) ?_
      refine g_bipush X (v := (50 : Int32)) dDI_missingFault_64 (by decide) ?_
      refine g_callVN X hK gTs_ok ly_32 rfl mw_FI_tell nw_664 mi_FI_tell ms_FI_tell (As := [.int (18 : Int32), .int (50 : Int32)]) rfl ⟨(Nat.le_of_ble_eq_true rfl), (Nat.le_of_ble_eq_true rfl), Nat.le_refl _, Nat.le_refl _⟩ (m_FI_tell h) (rest := []) rfl (Nat.le_of_ble_eq_true rfl) dDI_missingFault_66 (gk_i (fun r1 M2 h => ?_))
      exact g_iret X hr hlk dDI_missingFault_69 ⟨_, rfl, h⟩
    · have h := h.2 c
      refine g_aload_n X dDI_missingFault_40 rfl 1 rfl ?_
      refine g_getr X hK.1 fw_DI_15 ly_33 rfl dDI_missingFault_41 ?_
      refine g_bipush X (v := (10 : Int32)) dDI_missingFault_44 (by decide) ?_
      obtain ⟨hi, h⟩ := h
      refine g_iald X hK.1 ly_35 hi dDI_missingFault_46 ?_
      refine g_aload_n X dDI_missingFault_47 rfl 1 rfl ?_
      refine g_geti X hK.1 fw_DI_64 ly_33 rfl dDI_missingFault_48 ?_
      refine g_icmp_ne X dDI_missingFault_51 (fun c => ?_) (fun c => ?_)
      · have h := h.1 c
        refine g_aload_n X dDI_missingFault_58 rfl 1 rfl ?_
        refine g_getr X hK.1 fw_DI_31 ly_33 rfl dDI_missingFault_59 ?_
        refine g_bipush X (v := (18 : Int32)) dDI_missingFault_62 (by decide) ?_
        refine g_bipush X (v := (50 : Int32)) dDI_missingFault_64 (by decide) ?_
        refine g_callVN X hK gTs_ok ly_32 rfl mw_FI_tell nw_664 mi_FI_tell ms_FI_tell (As := [.int (18 : Int32), .int (50 : Int32)]) rfl ⟨(Nat.le_of_ble_eq_true rfl), (Nat.le_of_ble_eq_true rfl), Nat.le_refl _, Nat.le_refl _⟩ (m_FI_tell h) (rest := []) rfl (Nat.le_of_ble_eq_true rfl) dDI_missingFault_66 (gk_i (fun r3 M4 h => ?_))
        exact g_iret X hr hlk dDI_missingFault_69 ⟨_, rfl, h⟩
      · have h := h.2 c
        refine g_iconst X (v := (0 : Int32)) dDI_missingFault_54 (by decide) ?_
        refine g_goto X dDI_missingFault_55 ?_
        exact g_iret X hr hlk dDI_missingFault_69 ⟨_, rfl, h⟩
  have r_34 : ∀ (M : gMem), wj_DI_missingFault_34 post M → GMx D ta base p l e 1 22 s m [.ref (base + 33)] below meth c (gPi post) 2 34 [(0, .ref (base + 33))] [] M := by
    intro M h
    unfold wj_DI_missingFault_34 at h
    refine g_iconst X (v := (0 : Int32)) dDI_missingFault_34 (by decide) ?_
    exact r_35 (0 : Int32) M h
  refine g_args (L' := [(0, .ref (base + 33))]) rfl ?_
  unfold wp_DI_missingFault at h
  refine g_aload_n X dDI_missingFault_0 rfl 0 rfl ?_
  refine g_getr X hK.1 fw_DI_15 ly_33 rfl dDI_missingFault_1 ?_
  refine g_bipush X (v := (8 : Int32)) dDI_missingFault_4 (by decide) ?_
  obtain ⟨hi, h⟩ := h
  refine g_iald X hK.1 ly_35 hi dDI_missingFault_6 ?_
  refine g_if_eq X dDI_missingFault_7 (fun c => ?_) (fun c => ?_)
  · have h := h.1 c
    exact r_34 M h
  · have h := h.2 c
    refine g_aload_n X dDI_missingFault_10 rfl 0 rfl ?_
    refine g_getr X hK.1 fw_DI_15 ly_33 rfl dDI_missingFault_11 ?_
    refine g_bipush X (v := (9 : Int32)) dDI_missingFault_14 (by decide) ?_
    obtain ⟨hi, h⟩ := h
    refine g_iald X hK.1 ly_35 hi dDI_missingFault_16 ?_
    refine g_if_eq X dDI_missingFault_17 (fun c => ?_) (fun c => ?_)
    · have h := h.1 c
      exact r_34 M h
    · have h := h.2 c
      refine g_aload_n X dDI_missingFault_20 rfl 0 rfl ?_
      refine g_getr X hK.1 fw_DI_15 ly_33 rfl dDI_missingFault_21 ?_
      refine g_bipush X (v := (10 : Int32)) dDI_missingFault_24 (by decide) ?_
      obtain ⟨hi, h⟩ := h
      refine g_iald X hK.1 ly_35 hi dDI_missingFault_26 ?_
      refine g_if_eq X dDI_missingFault_27 (fun c => ?_) (fun c => ?_)
      · have h := h.1 c
        exact r_34 M h
      · have h := h.2 c
        refine g_iconst X (v := (1 : Int32)) dDI_missingFault_30 (by decide) ?_
        refine g_goto X dDI_missingFault_31 ?_
        exact r_35 (1 : Int32) M h
set_option maxRecDepth 100000 in
set_option maxHeartbeats 4000000 in
theorem m_DI_lengthMayBe {l : Launch} {D : va_G} {ta : Nat → ClassId} {base : Nat} {sa : Nat → Nat} {post : Bool → gMem → Prop} {a0 : Int32} {a1 : Int64} {M : gMem} (h : wp_DI_lengthMayBe post a0 a1 M) : GC gLay gCl D ta base gNw sa gTabs gTs l y_DI_lengthMayBe b_DI_lengthMayBe 3 (some .boolean) 1 20 [.int a0, .long a1] M (gPz post) := by
  refine GC.of (own := "ObjectFile$Directory") pn_DI rfl (Nat.le_of_ble_eq_true rfl) ?_
  intro p e s m below meth c X hK hr hlk
  refine g_args (L' := [(0, .int a0), (1, .long a1)]) rfl ?_
  unfold wp_DI_lengthMayBe at h
  refine g_iload_n X dDI_lengthMayBe_0 rfl 0 rfl ?_
  refine g_callSN X hK gTs_ok mw_OF_isRela nw_749 mt_OF_isRela (As := [.int a0]) rfl ⟨(Nat.le_of_ble_eq_true rfl), (Nat.le_of_ble_eq_true rfl), Nat.le_refl _, Nat.le_refl _⟩ (m_OF_isRela h) (rest := []) rfl (Nat.le_of_ble_eq_true rfl) dDI_lengthMayBe_1 (gk_z (fun r1 M2 h => ?_))
  refine g_if_eq X dDI_lengthMayBe_4 (fun c => ?_) (fun c => ?_)
  · have h := h.1 c
    refine g_iload_n X dDI_lengthMayBe_23 rfl 0 rfl ?_
    refine g_lookup X (dt := 130) [((3 : Int32), 60), ((4 : Int32), 74), ((8 : Int32), 98)] dDI_lengthMayBe_24.1 (by decide +kernel) (by decide +kernel) (by decide) ?_
    refine gSw_cons (fun c => ?_) (fun c => ?_)
    · have h := h.1 c
      refine g_lload_n X dDI_lengthMayBe_60 rfl 1 rfl ?_
      refine g_ldc2 X (v := (4096 : Int64)) (tw_767) dDI_lengthMayBe_61 ?_
      refine g_lif_gt X dDI_lengthMayBe_64 dDI_lengthMayBe_65 (fun c => ?_) (fun c => ?_)
      · have h := h.1 c
        refine g_iconst X (v := (0 : Int32)) dDI_lengthMayBe_72 (by decide) ?_
        exact g_zret X hr hlk (by decide) dDI_lengthMayBe_73 ⟨false, rfl, h⟩
      · have h := h.2 c
        refine g_iconst X (v := (1 : Int32)) dDI_lengthMayBe_68 (by decide) ?_
        refine g_goto X dDI_lengthMayBe_69 ?_
        exact g_zret X hr hlk (by decide) dDI_lengthMayBe_73 ⟨true, rfl, h⟩
    · have h := h.2 c
      refine gSw_cons (fun c => ?_) (fun c => ?_)
      · have h := h.1 c
        refine g_lload_n X dDI_lengthMayBe_74 rfl 1 rfl ?_
        refine g_ldc2 X (v := (2 : Int64)) (tw_768) dDI_lengthMayBe_75 ?_
        refine g_lrem X dDI_lengthMayBe_78 (by decide) ?_
        refine g_lconst X (v := (0 : Int64)) dDI_lengthMayBe_79 (by decide) ?_
        refine g_lif_ne X dDI_lengthMayBe_80 dDI_lengthMayBe_81 (fun c => ?_) (fun c => ?_)
        · have h := h.1 c
          refine g_iconst X (v := (0 : Int32)) dDI_lengthMayBe_96 (by decide) ?_
          exact g_zret X hr hlk (by decide) dDI_lengthMayBe_97 ⟨false, rfl, h⟩
        · have h := h.2 c
          refine g_lload_n X dDI_lengthMayBe_84 rfl 1 rfl ?_
          refine g_ldc2 X (v := (2048 : Int64)) (tw_769) dDI_lengthMayBe_85 ?_
          refine g_lif_gt X dDI_lengthMayBe_88 dDI_lengthMayBe_89 (fun c => ?_) (fun c => ?_)
          · have h := h.1 c
            refine g_iconst X (v := (0 : Int32)) dDI_lengthMayBe_96 (by decide) ?_
            exact g_zret X hr hlk (by decide) dDI_lengthMayBe_97 ⟨false, rfl, h⟩
          · have h := h.2 c
            refine g_iconst X (v := (1 : Int32)) dDI_lengthMayBe_92 (by decide) ?_
            refine g_goto X dDI_lengthMayBe_93 ?_
            exact g_zret X hr hlk (by decide) dDI_lengthMayBe_97 ⟨true, rfl, h⟩
      · have h := h.2 c
        refine gSw_cons (fun c => ?_) (fun c => ?_)
        · have h := h.1 c
          refine g_lload_n X dDI_lengthMayBe_98 rfl 1 rfl ?_
          refine g_ldc2 X (v := (16 : Int64)) (tw_770) dDI_lengthMayBe_99 ?_
          refine g_lrem X dDI_lengthMayBe_102 (by decide) ?_
          refine g_lconst X (v := (0 : Int64)) dDI_lengthMayBe_103 (by decide) ?_
          refine g_lif_ne X dDI_lengthMayBe_104 dDI_lengthMayBe_105 (fun c => ?_) (fun c => ?_)
          · have h := h.1 c
            refine g_iconst X (v := (0 : Int32)) dDI_lengthMayBe_128 (by decide) ?_
            exact g_zret X hr hlk (by decide) dDI_lengthMayBe_129 ⟨false, rfl, h⟩
          · have h := h.2 c
            refine g_lload_n X dDI_lengthMayBe_108 rfl 1 rfl ?_
            refine g_ldc2 X (v := (16 : Int64)) (tw_770) dDI_lengthMayBe_109 ?_
            refine g_lif_lt X dDI_lengthMayBe_112 dDI_lengthMayBe_113 (fun c => ?_) (fun c => ?_)
            · have h := h.1 c
              refine g_iconst X (v := (0 : Int32)) dDI_lengthMayBe_128 (by decide) ?_
              exact g_zret X hr hlk (by decide) dDI_lengthMayBe_129 ⟨false, rfl, h⟩
            · have h := h.2 c
              refine g_lload_n X dDI_lengthMayBe_116 rfl 1 rfl ?_
              refine g_ldc2 X (v := (1616 : Int64)) (tw_771) dDI_lengthMayBe_117 ?_
              refine g_lif_gt X dDI_lengthMayBe_120 dDI_lengthMayBe_121 (fun c => ?_) (fun c => ?_)
              · have h := h.1 c
                refine g_iconst X (v := (0 : Int32)) dDI_lengthMayBe_128 (by decide) ?_
                exact g_zret X hr hlk (by decide) dDI_lengthMayBe_129 ⟨false, rfl, h⟩
              · have h := h.2 c
                refine g_iconst X (v := (1 : Int32)) dDI_lengthMayBe_124 (by decide) ?_
                refine g_goto X dDI_lengthMayBe_125 ?_
                exact g_zret X hr hlk (by decide) dDI_lengthMayBe_129 ⟨true, rfl, h⟩
        · have h := h.2 c
          refine gSw_nil ?_
          refine g_iload_n X dDI_lengthMayBe_130 rfl 0 rfl ?_
          refine g_iconst X (v := (3 : Int32)) dDI_lengthMayBe_131 (by decide) ?_
          refine g_icmp_gt X dDI_lengthMayBe_132 (fun c => ?_) (fun c => ?_)
          · have h := h.1 c
            refine g_iconst X (v := (1 : Int32)) dDI_lengthMayBe_143 (by decide) ?_
            refine g_goto X dDI_lengthMayBe_144 ?_
            exact g_zret X hr hlk (by decide) dDI_lengthMayBe_148 ⟨true, rfl, h⟩
          · have h := h.2 c
            refine g_lload_n X dDI_lengthMayBe_135 rfl 1 rfl ?_
            refine g_ldc2 X (v := (2048 : Int64)) (tw_769) dDI_lengthMayBe_136 ?_
            refine g_lif_gt X dDI_lengthMayBe_139 dDI_lengthMayBe_140 (fun c => ?_) (fun c => ?_)
            · have h := h.1 c
              refine g_iconst X (v := (0 : Int32)) dDI_lengthMayBe_147 (by decide) ?_
              exact g_zret X hr hlk (by decide) dDI_lengthMayBe_148 ⟨false, rfl, h⟩
            · have h := h.2 c
              refine g_iconst X (v := (1 : Int32)) dDI_lengthMayBe_143 (by decide) ?_
              refine g_goto X dDI_lengthMayBe_144 ?_
              exact g_zret X hr hlk (by decide) dDI_lengthMayBe_148 ⟨true, rfl, h⟩
  · have h := h.2 c
    refine g_lload_n X dDI_lengthMayBe_7 rfl 1 rfl ?_
    refine g_ldc2 X (v := (12 : Int64)) (tw_763) dDI_lengthMayBe_8 ?_
    refine g_lrem X dDI_lengthMayBe_11 (by decide) ?_
    refine g_lconst X (v := (0 : Int64)) dDI_lengthMayBe_12 (by decide) ?_
    refine g_lif_ne X dDI_lengthMayBe_13 dDI_lengthMayBe_14 (fun c => ?_) (fun c => ?_)
    · have h := h.1 c
      refine g_iconst X (v := (0 : Int32)) dDI_lengthMayBe_21 (by decide) ?_
      exact g_zret X hr hlk (by decide) dDI_lengthMayBe_22 ⟨false, rfl, h⟩
    · have h := h.2 c
      refine g_iconst X (v := (1 : Int32)) dDI_lengthMayBe_17 (by decide) ?_
      refine g_goto X dDI_lengthMayBe_18 ?_
      exact g_zret X hr hlk (by decide) dDI_lengthMayBe_22 ⟨true, rfl, h⟩
set_option maxRecDepth 100000 in
set_option maxHeartbeats 4000000 in
theorem m_DI_lengthsFault {l : Launch} {D : va_G} {ta : Nat → ClassId} {base : Nat} {sa : Nat → Nat} {post : Int32 → gMem → Prop} {M : gMem} (h : wp_DI_lengthsFault post M) : GC gLay gCl D ta base gNw sa gTabs gTs l y_DI_lengthsFault b_DI_lengthsFault 6 (some .int) 2 45 [.ref (base + 33)] M (gPi post) := by
  refine GC.of (own := "ObjectFile$Directory") pn_DI rfl (Nat.le_of_ble_eq_true rfl) ?_
  intro p e s m below meth c X hK hr hlk
  have r_47 : ∀ (k4 : Int64 → Int32 → gMem → Prop) (hk4 : ∀ (v1 : Int64) (v3 : Int32) (M : gMem), k4 v1 v3 M → GMx D ta base p l e 2 45 s m [.ref (base + 33)] below meth c (gPi post) 6 4 [(0, .ref (base + 33)), (1, .long v1), (3, .int v3)] [] M) (v1 : Int64) (v3 : Int32) (v4 : Int64) (M : gMem), wj_DI_lengthsFault_47 post k4 v1 v3 v4 M → GMx D ta base p l e 2 45 s m [.ref (base + 33)] below meth c (gPi post) 6 47 [(0, .ref (base + 33)), (1, .long v1), (3, .int v3), (4, .long v4)] [] M := by
    intro k4 hk4 v1 v3 v4 M h
    unfold wj_DI_lengthsFault_47 at h
    refine g_aload_n X dDI_lengthsFault_47 rfl 0 rfl ?_
    refine g_getr X hK.1 fw_DI_9 ly_33 rfl dDI_lengthsFault_48 ?_
    refine g_iload_n X dDI_lengthsFault_51 rfl 2 rfl ?_
    obtain ⟨hi, h⟩ := h
    refine g_iald X hK.1 ly_34 hi dDI_lengthsFault_52 ?_
    refine g_lload X dDI_lengthsFault_53 3 rfl ?_
    refine g_callS X hK gTs_ok mw_DI_lengthMayBe tw_764 mt_DI_lengthMayBe (As := [.int (M 34 (v3).toNatClampNeg), .long v4]) rfl ⟨(Nat.le_of_ble_eq_true rfl), (Nat.le_of_ble_eq_true rfl), Nat.le_refl _, Nat.le_refl _⟩ (m_DI_lengthMayBe h) (rest := []) rfl (Nat.le_of_ble_eq_true rfl) dDI_lengthsFault_55 (gk_z (fun r5 M6 h => ?_))
    refine g_if_eq X dDI_lengthsFault_58 (fun c => ?_) (fun c => ?_)
    · have h := h.1 c
      refine g_aload_n X dDI_lengthsFault_69 rfl 0 rfl ?_
      refine g_bipush X (v := (19 : Int32)) dDI_lengthsFault_70 (by decide) ?_
      refine g_iload_n X dDI_lengthsFault_72 rfl 2 rfl ?_
      refine g_iconst X (v := (5 : Int32)) dDI_lengthsFault_73 (by decide) ?_
      refine g_callV X hK gTs_ok ly_33 rfl mw_DI_tellEntry tw_700 mi_DI_tellEntry ms_DI_tellEntry (As := [.int (19 : Int32), .int v3, .int (5 : Int32)]) rfl ⟨(Nat.le_of_ble_eq_true rfl), (Nat.le_of_ble_eq_true rfl), Nat.le_refl _, Nat.le_refl _⟩ (m_DI_tellEntry h) (rest := []) rfl (Nat.le_of_ble_eq_true rfl) dDI_lengthsFault_74 (gk_i (fun r7 M8 h => ?_))
      exact g_iret X hr hlk dDI_lengthsFault_77 ⟨_, rfl, h⟩
    · have h := h.2 c
      refine g_lload_n X dDI_lengthsFault_61 rfl 1 rfl ?_
      refine g_ldc2 X (v := (300 : Int64)) (tw_772) dDI_lengthsFault_62 ?_
      refine g_lif_le X dDI_lengthsFault_65 dDI_lengthsFault_66 (fun c => ?_) (fun c => ?_)
      · have h := h.1 c
        obtain ⟨x9, ex9⟩ : ∃ z : Int32, z = v3 + (1 : Int32) := ⟨_, rfl⟩
        have h := h x9 ex9
        refine g_iinc X (L' := [(3, .int x9), (0, .ref (base + 33)), (1, .long v1), (4, .long v4)]) (k := 2) dDI_lengthsFault_78 rfl (v := x9) (by rw [ex9]; rfl) (Nat.le_of_ble_eq_true rfl) rfl ?_
        refine g_goto X dDI_lengthsFault_81 ?_
        refine g_sub (L' := [(0, .ref (base + 33)), (1, .long v1), (3, .int x9)]) [1, 2, 0] rfl ?_
        exact hk4 v1 x9 M6 h
      · have h := h.2 c
        refine g_aload_n X dDI_lengthsFault_69 rfl 0 rfl ?_
        refine g_bipush X (v := (19 : Int32)) dDI_lengthsFault_70 (by decide) ?_
        refine g_iload_n X dDI_lengthsFault_72 rfl 2 rfl ?_
        refine g_iconst X (v := (5 : Int32)) dDI_lengthsFault_73 (by decide) ?_
        refine g_callV X hK gTs_ok ly_33 rfl mw_DI_tellEntry tw_700 mi_DI_tellEntry ms_DI_tellEntry (As := [.int (19 : Int32), .int v3, .int (5 : Int32)]) rfl ⟨(Nat.le_of_ble_eq_true rfl), (Nat.le_of_ble_eq_true rfl), Nat.le_refl _, Nat.le_refl _⟩ (m_DI_tellEntry h) (rest := []) rfl (Nat.le_of_ble_eq_true rfl) dDI_lengthsFault_74 (gk_i (fun r10 M11 h => ?_))
        exact g_iret X hr hlk dDI_lengthsFault_77 ⟨_, rfl, h⟩
  have r_4 : ∀ (n : Nat) (v1 : Int64) (v3 : Int32) (M : gMem), wl_DI_lengthsFault_4 post n v1 v3 M → GMx D ta base p l e 2 45 s m [.ref (base + 33)] below meth c (gPi post) 6 4 [(0, .ref (base + 33)), (1, .long v1), (3, .int v3)] [] M := by
    intro n
    induction n with
    | zero => exact fun _ _ M h => h.elim
    | succ n ih =>
      intro v1 v3 M h
      refine g_iload_n X dDI_lengthsFault_4 rfl 2 rfl ?_
      refine g_aload_n X dDI_lengthsFault_5 rfl 0 rfl ?_
      refine g_geti X hK.1 fw_DI_51 ly_33 rfl dDI_lengthsFault_6 ?_
      refine g_icmp_ge X dDI_lengthsFault_9 (fun c => ?_) (fun c => ?_)
      · have h := h.1 c
        refine g_iconst X (v := (0 : Int32)) dDI_lengthsFault_84 (by decide) ?_
        exact g_iret X hr hlk dDI_lengthsFault_85 ⟨_, rfl, h⟩
      · have h := h.2 c
        refine g_iload_n X dDI_lengthsFault_12 rfl 2 rfl ?_
        refine g_bipush X (v := (16 : Int32)) dDI_lengthsFault_13 (by decide) ?_
        refine g_icmp_ge X dDI_lengthsFault_15 (fun c => ?_) (fun c => ?_)
        · have h := h.1 c
          refine g_iconst X (v := (0 : Int32)) dDI_lengthsFault_84 (by decide) ?_
          exact g_iret X hr hlk dDI_lengthsFault_85 ⟨_, rfl, h⟩
        · have h := h.2 c
          refine g_aload_n X dDI_lengthsFault_18 rfl 0 rfl ?_
          refine g_iload_n X dDI_lengthsFault_19 rfl 2 rfl ?_
          refine g_iconst X (v := (5 : Int32)) dDI_lengthsFault_20 (by decide) ?_
          refine g_callV X hK gTs_ok ly_33 rfl mw_DI_numberOf tw_696 mi_DI_numberOf ms_DI_numberOf (As := [.int v3, .int (5 : Int32)]) rfl ⟨(Nat.le_of_ble_eq_true rfl), (Nat.le_of_ble_eq_true rfl), Nat.le_refl _, Nat.le_refl _⟩ (m_DI_numberOf h) (rest := []) rfl (Nat.le_of_ble_eq_true rfl) dDI_lengthsFault_21 (gk_l (fun r1 M2 h => ?_))
          refine g_lstore X (L' := [(4, .long r1), (0, .ref (base + 33)), (1, .long v1), (3, .int v3)]) dDI_lengthsFault_24 (Nat.le_of_ble_eq_true rfl) rfl ?_
          refine g_aload_n X dDI_lengthsFault_26 rfl 1 rfl ?_
          refine g_getr X hK.1 fw_DI_9 ly_33 rfl dDI_lengthsFault_27 ?_
          refine g_iload_n X dDI_lengthsFault_30 rfl 3 rfl ?_
          obtain ⟨hi, h⟩ := h
          refine g_iald X hK.1 ly_34 hi dDI_lengthsFault_31 ?_
          refine g_callSN X hK gTs_ok mw_OF_isRela nw_749 mt_OF_isRela (As := [.int (M2 34 (v3).toNatClampNeg)]) rfl ⟨(Nat.le_of_ble_eq_true rfl), (Nat.le_of_ble_eq_true rfl), Nat.le_refl _, Nat.le_refl _⟩ (m_OF_isRela h) (rest := []) rfl (Nat.le_of_ble_eq_true rfl) dDI_lengthsFault_32 (gk_z (fun r3 M4 h => ?_))
          refine g_if_eq X dDI_lengthsFault_35 (fun c => ?_) (fun c => ?_)
          · have h := h.1 c
            refine g_sub (L' := [(0, .ref (base + 33)), (1, .long v1), (3, .int v3), (4, .long r1)]) [1, 2, 3, 0] rfl ?_
            exact r_47 _ (ih) v1 v3 r1 M4 h
          · have h := h.2 c
            refine g_lload_n X dDI_lengthsFault_38 rfl 2 rfl ?_
            refine g_lload X dDI_lengthsFault_39 0 rfl ?_
            refine g_ldc2 X (v := (12 : Int64)) (tw_763) dDI_lengthsFault_41 ?_
            refine g_ldiv X dDI_lengthsFault_44 (by decide) ?_
            refine g_ladd X dDI_lengthsFault_45 ?_
            refine g_topl (fun x12 ex12 => ?_)
            have h := h x12 ex12
            refine g_lstore_n X (L' := [(1, .long x12), (4, .long r1), (0, .ref (base + 33)), (3, .int v3)]) dDI_lengthsFault_46 rfl (Nat.le_of_ble_eq_true rfl) rfl ?_
            refine g_sub (L' := [(0, .ref (base + 33)), (1, .long x12), (3, .int v3), (4, .long r1)]) [2, 0, 3, 1] rfl ?_
            exact r_47 _ (ih) x12 v3 r1 M4 h
  refine g_args (L' := [(0, .ref (base + 33))]) rfl ?_
  unfold wp_DI_lengthsFault at h
  refine g_lconst X (v := (0 : Int64)) dDI_lengthsFault_0 (by decide) ?_
  refine g_lstore_n X (L' := [(1, .long (0 : Int64)), (0, .ref (base + 33))]) dDI_lengthsFault_1 rfl (Nat.le_of_ble_eq_true rfl) rfl ?_
  refine g_iconst X (v := (1 : Int32)) dDI_lengthsFault_2 (by decide) ?_
  refine g_istore_n X (L' := [(3, .int (1 : Int32)), (1, .long (0 : Int64)), (0, .ref (base + 33))]) dDI_lengthsFault_3 rfl (Nat.le_of_ble_eq_true rfl) rfl ?_
  refine g_sub (L' := [(0, .ref (base + 33)), (1, .long (0 : Int64)), (3, .int (1 : Int32))]) [2, 1, 0] rfl ?_
  obtain ⟨n9, h⟩ := h
  exact r_4 n9 (0 : Int64) (1 : Int32) M h
set_option maxRecDepth 100000 in
set_option maxHeartbeats 4000000 in
theorem m_DI_locateParts {l : Launch} {D : va_G} {ta : Nat → ClassId} {base : Nat} {sa : Nat → Nat} {post : gMem → Prop} {M : gMem} (h : wp_DI_locateParts post M) : GC gLay gCl D ta base gNw sa gTabs gTs l y_DI_locateParts b_DI_locateParts 3 none 2 45 [.ref (base + 33)] M (gPv post) := by
  refine GC.of (own := "ObjectFile$Directory") pn_DI rfl (Nat.le_of_ble_eq_true rfl) ?_
  intro p e s m below meth c X hK hr hlk
  have r_56 : ∀ (k2 : Int32 → gMem → Prop) (hk2 : ∀ (v1 : Int32) (M : gMem), k2 v1 M → GMx D ta base p l e 2 45 s m [.ref (base + 33)] below meth c (gPv post) 3 2 [(0, .ref (base + 33)), (1, .int v1)] [] M) (v1 : Int32) (v2 : Int32) (s0 : Int32) (s1 : Int32) (M : gMem), wj_DI_locateParts_56 post k2 v1 v2 s0 s1 M → GMx D ta base p l e 2 45 s m [.ref (base + 33)] below meth c (gPv post) 3 56 [(0, .ref (base + 33)), (1, .int v1), (2, .int v2)] [.int s0, .int s1, .ref (base + 37)] M := by
    intro k2 hk2 v1 v2 s0 s1 M h
    unfold wj_DI_locateParts_56 at h
    obtain ⟨hi, h⟩ := h
    refine g_iast X hK.1 ly_37 hi dDI_locateParts_56 ?_
    refine g_topM (fun M7 eM7 => ?_)
    have h := h M7 eM7
    refine g_aload_n X dDI_locateParts_57 rfl 0 rfl ?_
    refine g_getr X hK.1 fw_DI_24 ly_33 rfl dDI_locateParts_58 ?_
    refine g_iload_n X dDI_locateParts_61 rfl 1 rfl ?_
    refine g_iload_n X dDI_locateParts_62 rfl 2 rfl ?_
    refine g_if_ne X dDI_locateParts_63 (fun c => ?_) (fun c => ?_)
    · have h := h.1 c
      refine g_aload_n X dDI_locateParts_70 rfl 0 rfl ?_
      refine g_iload_n X dDI_locateParts_71 rfl 2 rfl ?_
      refine g_bipush X (v := (8 : Int32)) dDI_locateParts_72 (by decide) ?_
      refine g_callV X hK gTs_ok ly_33 rfl mw_DI_numberOf tw_696 mi_DI_numberOf ms_DI_numberOf (As := [.int v2, .int (8 : Int32)]) rfl ⟨(Nat.le_of_ble_eq_true rfl), (Nat.le_of_ble_eq_true rfl), Nat.le_refl _, Nat.le_refl _⟩ (m_DI_numberOf h) (rest := [.int v1, .ref (base + 38)]) rfl (Nat.le_of_ble_eq_true rfl) dDI_locateParts_74 (gk_l (fun r8 M9 h => ?_))
      refine g_l2i X dDI_locateParts_77 rfl ?_
      obtain ⟨hi, h⟩ := h
      refine g_iast X hK.1 ly_38 hi dDI_locateParts_78 ?_
      refine g_topM (fun M10 eM10 => ?_)
      have h := h M10 eM10
      obtain ⟨x11, ex11⟩ : ∃ z : Int32, z = v1 + (1 : Int32) := ⟨_, rfl⟩
      have h := h x11 ex11
      refine g_iinc X (L' := [(1, .int x11), (0, .ref (base + 33)), (2, .int v2)]) (k := 1) dDI_locateParts_79 rfl (v := x11) (by rw [ex11]; rfl) (Nat.le_of_ble_eq_true rfl) rfl ?_
      refine g_goto X dDI_locateParts_82 ?_
      refine g_sub (L' := [(0, .ref (base + 33)), (1, .int x11)]) [1, 0] rfl ?_
      exact hk2 x11 M10 h
    · have h := h.2 c
      refine g_iconst X (v := (1 : Int32)) dDI_locateParts_66 (by decide) ?_
      refine g_goto X dDI_locateParts_67 ?_
      obtain ⟨hi, h⟩ := h
      refine g_iast X hK.1 ly_38 hi dDI_locateParts_78 ?_
      refine g_topM (fun M12 eM12 => ?_)
      have h := h M12 eM12
      obtain ⟨x13, ex13⟩ : ∃ z : Int32, z = v1 + (1 : Int32) := ⟨_, rfl⟩
      have h := h x13 ex13
      refine g_iinc X (L' := [(1, .int x13), (0, .ref (base + 33)), (2, .int v2)]) (k := 1) dDI_locateParts_79 rfl (v := x13) (by rw [ex13]; rfl) (Nat.le_of_ble_eq_true rfl) rfl ?_
      refine g_goto X dDI_locateParts_82 ?_
      refine g_sub (L' := [(0, .ref (base + 33)), (1, .int x13)]) [1, 0] rfl ?_
      exact hk2 x13 M12 h
  have r_35 : ∀ (k2 : Int32 → gMem → Prop) (hk2 : ∀ (v1 : Int32) (M : gMem), k2 v1 M → GMx D ta base p l e 2 45 s m [.ref (base + 33)] below meth c (gPv post) 3 2 [(0, .ref (base + 33)), (1, .int v1)] [] M) (v1 : Int32) (v2 : Int32) (s0 : Int32) (s1 : Int32) (M : gMem), wj_DI_locateParts_35 post k2 v1 v2 s0 s1 M → GMx D ta base p l e 2 45 s m [.ref (base + 33)] below meth c (gPv post) 3 35 [(0, .ref (base + 33)), (1, .int v1), (2, .int v2)] [.int s0, .int s1, .ref (base + 36)] M := by
    intro k2 hk2 v1 v2 s0 s1 M h
    unfold wj_DI_locateParts_35 at h
    obtain ⟨hi, h⟩ := h
    refine g_iast X hK.1 ly_36 hi dDI_locateParts_35 ?_
    refine g_topM (fun M4 eM4 => ?_)
    have h := h M4 eM4
    refine g_aload_n X dDI_locateParts_36 rfl 0 rfl ?_
    refine g_getr X hK.1 fw_DI_21 ly_33 rfl dDI_locateParts_37 ?_
    refine g_iload_n X dDI_locateParts_40 rfl 1 rfl ?_
    refine g_iload_n X dDI_locateParts_41 rfl 2 rfl ?_
    refine g_if_ne X dDI_locateParts_42 (fun c => ?_) (fun c => ?_)
    · have h := h.1 c
      refine g_aload_n X dDI_locateParts_49 rfl 0 rfl ?_
      refine g_iload_n X dDI_locateParts_50 rfl 2 rfl ?_
      refine g_iconst X (v := (5 : Int32)) dDI_locateParts_51 (by decide) ?_
      refine g_callV X hK gTs_ok ly_33 rfl mw_DI_numberOf tw_696 mi_DI_numberOf ms_DI_numberOf (As := [.int v2, .int (5 : Int32)]) rfl ⟨(Nat.le_of_ble_eq_true rfl), (Nat.le_of_ble_eq_true rfl), Nat.le_refl _, Nat.le_refl _⟩ (m_DI_numberOf h) (rest := [.int v1, .ref (base + 37)]) rfl (Nat.le_of_ble_eq_true rfl) dDI_locateParts_52 (gk_l (fun r5 M6 h => ?_))
      refine g_l2i X dDI_locateParts_55 rfl ?_
      exact r_56 _ hk2 v1 v2 (r5.toInt32) v1 M6 h
    · have h := h.2 c
      refine g_iconst X (v := (0 : Int32)) dDI_locateParts_45 (by decide) ?_
      refine g_goto X dDI_locateParts_46 ?_
      exact r_56 _ hk2 v1 v2 (0 : Int32) v1 M4 h
  have r_2 : ∀ (n : Nat) (v1 : Int32) (M : gMem), wl_DI_locateParts_2 post n v1 M → GMx D ta base p l e 2 45 s m [.ref (base + 33)] below meth c (gPv post) 3 2 [(0, .ref (base + 33)), (1, .int v1)] [] M := by
    intro n
    induction n with
    | zero => exact fun _ M h => h.elim
    | succ n ih =>
      intro v1 M h
      refine g_iload_n X dDI_locateParts_2 rfl 1 rfl ?_
      refine g_bipush X (v := (11 : Int32)) dDI_locateParts_3 (by decide) ?_
      refine g_icmp_ge X dDI_locateParts_5 (fun c => ?_) (fun c => ?_)
      · have h := h.1 c
        exact g_vret X hr hlk dDI_locateParts_85 ⟨rfl, h⟩
      · have h := h.2 c
        refine g_aload_n X dDI_locateParts_8 rfl 0 rfl ?_
        refine g_getr X hK.1 fw_DI_15 ly_33 rfl dDI_locateParts_9 ?_
        refine g_iload_n X dDI_locateParts_12 rfl 1 rfl ?_
        obtain ⟨hi, h⟩ := h
        refine g_iald X hK.1 ly_35 hi dDI_locateParts_13 ?_
        refine g_topi (fun x1 ex1 => ?_)
        have h := h x1 ex1
        refine g_istore_n X (L' := [(2, .int x1), (0, .ref (base + 33)), (1, .int v1)]) dDI_locateParts_14 rfl (Nat.le_of_ble_eq_true rfl) rfl ?_
        refine g_aload_n X dDI_locateParts_15 rfl 1 rfl ?_
        refine g_getr X hK.1 fw_DI_18 ly_33 rfl dDI_locateParts_16 ?_
        refine g_iload_n X dDI_locateParts_19 rfl 2 rfl ?_
        refine g_iload_n X dDI_locateParts_20 rfl 0 rfl ?_
        refine g_if_ne X dDI_locateParts_21 (fun c => ?_) (fun c => ?_)
        · have h := h.1 c
          refine g_aload_n X dDI_locateParts_28 rfl 1 rfl ?_
          refine g_iload_n X dDI_locateParts_29 rfl 0 rfl ?_
          refine g_iconst X (v := (4 : Int32)) dDI_locateParts_30 (by decide) ?_
          refine g_callV X hK gTs_ok ly_33 rfl mw_DI_numberOf tw_696 mi_DI_numberOf ms_DI_numberOf (As := [.int x1, .int (4 : Int32)]) rfl ⟨(Nat.le_of_ble_eq_true rfl), (Nat.le_of_ble_eq_true rfl), Nat.le_refl _, Nat.le_refl _⟩ (m_DI_numberOf h) (rest := [.int v1, .ref (base + 36)]) rfl (Nat.le_of_ble_eq_true rfl) dDI_locateParts_31 (gk_l (fun r2 M3 h => ?_))
          refine g_l2i X dDI_locateParts_34 rfl ?_
          refine g_sub (L' := [(0, .ref (base + 33)), (1, .int v1), (2, .int x1)]) [1, 2, 0] rfl ?_
          exact r_35 _ (ih) v1 x1 (r2.toInt32) v1 M3 h
        · have h := h.2 c
          refine g_iconst X (v := (0 : Int32)) dDI_locateParts_24 (by decide) ?_
          refine g_goto X dDI_locateParts_25 ?_
          refine g_sub (L' := [(0, .ref (base + 33)), (1, .int v1), (2, .int x1)]) [1, 2, 0] rfl ?_
          exact r_35 _ (ih) v1 x1 (0 : Int32) v1 M h
  refine g_args (L' := [(0, .ref (base + 33))]) rfl ?_
  unfold wp_DI_locateParts at h
  refine g_iconst X (v := (0 : Int32)) dDI_locateParts_0 (by decide) ?_
  refine g_istore_n X (L' := [(1, .int (0 : Int32)), (0, .ref (base + 33))]) dDI_locateParts_1 rfl (Nat.le_of_ble_eq_true rfl) rfl ?_
  refine g_sub (L' := [(0, .ref (base + 33)), (1, .int (0 : Int32))]) [1, 0] rfl ?_
  obtain ⟨n9, h⟩ := h
  exact r_2 n9 (0 : Int32) M h
set_option maxRecDepth 100000 in
set_option maxHeartbeats 4000000 in
theorem m_DI_firstFault {l : Launch} {D : va_G} {ta : Nat → ClassId} {base : Nat} {sa : Nat → Nat} {post : Int32 → gMem → Prop} {M : gMem} (h : wp_DI_firstFault post M) : GC gLay gCl D ta base gNw sa gTabs gTs l y_DI_firstFault b_DI_firstFault 2 (some .int) 7 156 [.ref (base + 33)] M (gPi post) := by
  refine GC.of (own := "ObjectFile$Directory") pn_DI rfl (Nat.le_of_ble_eq_true rfl) ?_
  intro p e s m below meth c X hK hr hlk
  have r_123 : ∀ (s0 : Int32) (M : gMem), wj_DI_firstFault_123 post s0 M → GMx D ta base p l e 7 156 s m [.ref (base + 33)] below meth c (gPi post) 2 123 [(0, .ref (base + 33))] [.int s0] M := by
    intro s0 M h
    unfold wj_DI_firstFault_123 at h
    refine g_istore_n X (L' := [(1, .int s0), (0, .ref (base + 33))]) dDI_firstFault_123 rfl (Nat.le_of_ble_eq_true rfl) rfl ?_
    refine g_iload_n X dDI_firstFault_124 rfl 0 rfl ?_
    refine g_if_ne X dDI_firstFault_125 (fun c => ?_) (fun c => ?_)
    · have h := h.1 c
      refine g_iload_n X dDI_firstFault_132 rfl 0 rfl ?_
      exact g_iret X hr hlk dDI_firstFault_133 ⟨_, rfl, h⟩
    · have h := h.2 c
      refine g_aload_n X dDI_firstFault_128 rfl 1 rfl ?_
      refine g_callV X hK gTs_ok ly_33 rfl mw_DI_locateParts tw_773 mi_DI_locateParts ms_DI_locateParts (As := []) rfl ⟨(Nat.le_of_ble_eq_true rfl), (Nat.le_of_ble_eq_true rfl), Nat.le_refl _, Nat.le_refl _⟩ (m_DI_locateParts h) (rest := []) rfl (Nat.le_of_ble_eq_true rfl) dDI_firstFault_129 (gk_v (fun M20 h => ?_))
      refine g_iload_n X dDI_firstFault_132 rfl 0 rfl ?_
      exact g_iret X hr hlk dDI_firstFault_133 ⟨_, rfl, h⟩
  have r_101 : ∀ (s0 : Int32) (M : gMem), wj_DI_firstFault_101 post s0 M → GMx D ta base p l e 7 156 s m [.ref (base + 33)] below meth c (gPi post) 2 101 [(0, .ref (base + 33))] [.int s0] M := by
    intro s0 M h
    unfold wj_DI_firstFault_101 at h
    refine g_istore_n X (L' := [(1, .int s0), (0, .ref (base + 33))]) dDI_firstFault_101 rfl (Nat.le_of_ble_eq_true rfl) rfl ?_
    refine g_iload_n X dDI_firstFault_102 rfl 0 rfl ?_
    refine g_if_eq X dDI_firstFault_103 (fun c => ?_) (fun c => ?_)
    · have h := h.1 c
      refine g_aload_n X dDI_firstFault_110 rfl 1 rfl ?_
      refine g_bipush X (v := (20 : Int32)) dDI_firstFault_111 (by decide) ?_
      refine g_aload_n X dDI_firstFault_113 rfl 1 rfl ?_
      refine g_getr X hK.1 fw_DI_15 ly_33 rfl dDI_firstFault_114 ?_
      refine g_bipush X (v := (9 : Int32)) dDI_firstFault_117 (by decide) ?_
      obtain ⟨hi, h⟩ := h
      refine g_iald X hK.1 ly_35 hi dDI_firstFault_119 ?_
      refine g_callV X hK gTs_ok ly_33 rfl mw_DI_stringsFault tw_714 mi_DI_stringsFault ms_DI_stringsFault (As := [.int (20 : Int32), .int (M 35 ((9 : Int32)).toNatClampNeg)]) rfl ⟨(Nat.le_of_ble_eq_true rfl), (Nat.le_of_ble_eq_true rfl), Nat.le_refl _, Nat.le_refl _⟩ (m_DI_stringsFault h) (rest := []) rfl (Nat.le_of_ble_eq_true rfl) dDI_firstFault_120 (gk_i (fun r17 M18 h => ?_))
      refine g_sub (L' := [(0, .ref (base + 33))]) [1] rfl ?_
      exact r_123 r17 M18 h
    · have h := h.2 c
      refine g_iload_n X dDI_firstFault_106 rfl 0 rfl ?_
      refine g_goto X dDI_firstFault_107 ?_
      refine g_sub (L' := [(0, .ref (base + 33))]) [1] rfl ?_
      exact r_123 s0 M h
  have r_88 : ∀ (s0 : Int32) (M : gMem), wj_DI_firstFault_88 post s0 M → GMx D ta base p l e 7 156 s m [.ref (base + 33)] below meth c (gPi post) 2 88 [(0, .ref (base + 33))] [.int s0] M := by
    intro s0 M h
    unfold wj_DI_firstFault_88 at h
    refine g_istore_n X (L' := [(1, .int s0), (0, .ref (base + 33))]) dDI_firstFault_88 rfl (Nat.le_of_ble_eq_true rfl) rfl ?_
    refine g_iload_n X dDI_firstFault_89 rfl 0 rfl ?_
    refine g_if_eq X dDI_firstFault_90 (fun c => ?_) (fun c => ?_)
    · have h := h.1 c
      refine g_aload_n X dDI_firstFault_97 rfl 1 rfl ?_
      refine g_callV X hK gTs_ok ly_33 rfl mw_DI_lengthsFault tw_759 mi_DI_lengthsFault ms_DI_lengthsFault (As := []) rfl ⟨(Nat.le_of_ble_eq_true rfl), (Nat.le_of_ble_eq_true rfl), Nat.le_refl _, Nat.le_refl _⟩ (m_DI_lengthsFault h) (rest := []) rfl (Nat.le_of_ble_eq_true rfl) dDI_firstFault_98 (gk_i (fun r15 M16 h => ?_))
      refine g_sub (L' := [(0, .ref (base + 33))]) [1] rfl ?_
      exact r_101 r15 M16 h
    · have h := h.2 c
      refine g_iload_n X dDI_firstFault_93 rfl 0 rfl ?_
      refine g_goto X dDI_firstFault_94 ?_
      refine g_sub (L' := [(0, .ref (base + 33))]) [1] rfl ?_
      exact r_101 s0 M h
  have r_75 : ∀ (s0 : Int32) (M : gMem), wj_DI_firstFault_75 post s0 M → GMx D ta base p l e 7 156 s m [.ref (base + 33)] below meth c (gPi post) 2 75 [(0, .ref (base + 33))] [.int s0] M := by
    intro s0 M h
    unfold wj_DI_firstFault_75 at h
    refine g_istore_n X (L' := [(1, .int s0), (0, .ref (base + 33))]) dDI_firstFault_75 rfl (Nat.le_of_ble_eq_true rfl) rfl ?_
    refine g_iload_n X dDI_firstFault_76 rfl 0 rfl ?_
    refine g_if_eq X dDI_firstFault_77 (fun c => ?_) (fun c => ?_)
    · have h := h.1 c
      refine g_aload_n X dDI_firstFault_84 rfl 1 rfl ?_
      refine g_callV X hK gTs_ok ly_33 rfl mw_DI_missingFault tw_755 mi_DI_missingFault ms_DI_missingFault (As := []) rfl ⟨(Nat.le_of_ble_eq_true rfl), (Nat.le_of_ble_eq_true rfl), Nat.le_refl _, Nat.le_refl _⟩ (m_DI_missingFault h) (rest := []) rfl (Nat.le_of_ble_eq_true rfl) dDI_firstFault_85 (gk_i (fun r13 M14 h => ?_))
      refine g_sub (L' := [(0, .ref (base + 33))]) [1] rfl ?_
      exact r_88 r13 M14 h
    · have h := h.2 c
      refine g_iload_n X dDI_firstFault_80 rfl 0 rfl ?_
      refine g_goto X dDI_firstFault_81 ?_
      refine g_sub (L' := [(0, .ref (base + 33))]) [1] rfl ?_
      exact r_88 s0 M h
  have r_62 : ∀ (s0 : Int32) (M : gMem), wj_DI_firstFault_62 post s0 M → GMx D ta base p l e 7 156 s m [.ref (base + 33)] below meth c (gPi post) 2 62 [(0, .ref (base + 33))] [.int s0] M := by
    intro s0 M h
    unfold wj_DI_firstFault_62 at h
    refine g_istore_n X (L' := [(1, .int s0), (0, .ref (base + 33))]) dDI_firstFault_62 rfl (Nat.le_of_ble_eq_true rfl) rfl ?_
    refine g_iload_n X dDI_firstFault_63 rfl 0 rfl ?_
    refine g_if_eq X dDI_firstFault_64 (fun c => ?_) (fun c => ?_)
    · have h := h.1 c
      refine g_aload_n X dDI_firstFault_71 rfl 1 rfl ?_
      refine g_callV X hK gTs_ok ly_33 rfl mw_DI_numbersFault tw_735 mi_DI_numbersFault ms_DI_numbersFault (As := []) rfl ⟨(Nat.le_of_ble_eq_true rfl), (Nat.le_of_ble_eq_true rfl), Nat.le_refl _, Nat.le_refl _⟩ (m_DI_numbersFault h) (rest := []) rfl (Nat.le_of_ble_eq_true rfl) dDI_firstFault_72 (gk_i (fun r11 M12 h => ?_))
      refine g_sub (L' := [(0, .ref (base + 33))]) [1] rfl ?_
      exact r_75 r11 M12 h
    · have h := h.2 c
      refine g_iload_n X dDI_firstFault_67 rfl 0 rfl ?_
      refine g_goto X dDI_firstFault_68 ?_
      refine g_sub (L' := [(0, .ref (base + 33))]) [1] rfl ?_
      exact r_75 s0 M h
  have r_49 : ∀ (s0 : Int32) (M : gMem), wj_DI_firstFault_49 post s0 M → GMx D ta base p l e 7 156 s m [.ref (base + 33)] below meth c (gPi post) 2 49 [(0, .ref (base + 33))] [.int s0] M := by
    intro s0 M h
    unfold wj_DI_firstFault_49 at h
    refine g_istore_n X (L' := [(1, .int s0), (0, .ref (base + 33))]) dDI_firstFault_49 rfl (Nat.le_of_ble_eq_true rfl) rfl ?_
    refine g_iload_n X dDI_firstFault_50 rfl 0 rfl ?_
    refine g_if_eq X dDI_firstFault_51 (fun c => ?_) (fun c => ?_)
    · have h := h.1 c
      refine g_aload_n X dDI_firstFault_58 rfl 1 rfl ?_
      refine g_callV X hK gTs_ok ly_33 rfl mw_DI_labelsFault tw_719 mi_DI_labelsFault ms_DI_labelsFault (As := []) rfl ⟨(Nat.le_of_ble_eq_true rfl), (Nat.le_of_ble_eq_true rfl), Nat.le_refl _, Nat.le_refl _⟩ (m_DI_labelsFault h) (rest := []) rfl (Nat.le_of_ble_eq_true rfl) dDI_firstFault_59 (gk_i (fun r9 M10 h => ?_))
      refine g_sub (L' := [(0, .ref (base + 33))]) [1] rfl ?_
      exact r_62 r9 M10 h
    · have h := h.2 c
      refine g_iload_n X dDI_firstFault_54 rfl 0 rfl ?_
      refine g_goto X dDI_firstFault_55 ?_
      refine g_sub (L' := [(0, .ref (base + 33))]) [1] rfl ?_
      exact r_62 s0 M h
  have r_30 : ∀ (s0 : Int32) (M : gMem), wj_DI_firstFault_30 post s0 M → GMx D ta base p l e 7 156 s m [.ref (base + 33)] below meth c (gPi post) 2 30 [(0, .ref (base + 33))] [.int s0] M := by
    intro s0 M h
    unfold wj_DI_firstFault_30 at h
    refine g_istore_n X (L' := [(1, .int s0), (0, .ref (base + 33))]) dDI_firstFault_30 rfl (Nat.le_of_ble_eq_true rfl) rfl ?_
    refine g_iload_n X dDI_firstFault_31 rfl 0 rfl ?_
    refine g_if_eq X dDI_firstFault_32 (fun c => ?_) (fun c => ?_)
    · have h := h.1 c
      refine g_aload_n X dDI_firstFault_39 rfl 1 rfl ?_
      refine g_bipush X (v := (15 : Int32)) dDI_firstFault_40 (by decide) ?_
      refine g_aload_n X dDI_firstFault_42 rfl 1 rfl ?_
      refine g_geti X hK.1 fw_DI_64 ly_33 rfl dDI_firstFault_43 ?_
      refine g_callV X hK gTs_ok ly_33 rfl mw_DI_stringsFault tw_714 mi_DI_stringsFault ms_DI_stringsFault (As := [.int (15 : Int32), .int (M 33 9)]) rfl ⟨(Nat.le_of_ble_eq_true rfl), (Nat.le_of_ble_eq_true rfl), Nat.le_refl _, Nat.le_refl _⟩ (m_DI_stringsFault h) (rest := []) rfl (Nat.le_of_ble_eq_true rfl) dDI_firstFault_46 (gk_i (fun r7 M8 h => ?_))
      refine g_sub (L' := [(0, .ref (base + 33))]) [1] rfl ?_
      exact r_49 r7 M8 h
    · have h := h.2 c
      refine g_iload_n X dDI_firstFault_35 rfl 0 rfl ?_
      refine g_goto X dDI_firstFault_36 ?_
      refine g_sub (L' := [(0, .ref (base + 33))]) [1] rfl ?_
      exact r_49 s0 M h
  have r_17 : ∀ (s0 : Int32) (M : gMem), wj_DI_firstFault_17 post s0 M → GMx D ta base p l e 7 156 s m [.ref (base + 33)] below meth c (gPi post) 2 17 [(0, .ref (base + 33))] [.int s0] M := by
    intro s0 M h
    unfold wj_DI_firstFault_17 at h
    refine g_istore_n X (L' := [(1, .int s0), (0, .ref (base + 33))]) dDI_firstFault_17 rfl (Nat.le_of_ble_eq_true rfl) rfl ?_
    refine g_iload_n X dDI_firstFault_18 rfl 0 rfl ?_
    refine g_if_eq X dDI_firstFault_19 (fun c => ?_) (fun c => ?_)
    · have h := h.1 c
      refine g_aload_n X dDI_firstFault_26 rfl 1 rfl ?_
      refine g_callV X hK gTs_ok ly_33 rfl mw_DI_entriesFault tw_692 mi_DI_entriesFault ms_DI_entriesFault (As := []) rfl ⟨(Nat.le_of_ble_eq_true rfl), (Nat.le_of_ble_eq_true rfl), Nat.le_refl _, Nat.le_refl _⟩ (m_DI_entriesFault h) (rest := []) rfl (Nat.le_of_ble_eq_true rfl) dDI_firstFault_27 (gk_i (fun r5 M6 h => ?_))
      refine g_sub (L' := [(0, .ref (base + 33))]) [1] rfl ?_
      exact r_30 r5 M6 h
    · have h := h.2 c
      refine g_iload_n X dDI_firstFault_22 rfl 0 rfl ?_
      refine g_goto X dDI_firstFault_23 ?_
      refine g_sub (L' := [(0, .ref (base + 33))]) [1] rfl ?_
      exact r_30 s0 M h
  refine g_args (L' := [(0, .ref (base + 33))]) rfl ?_
  unfold wp_DI_firstFault at h
  refine g_aload_n X dDI_firstFault_0 rfl 0 rfl ?_
  refine g_callV X hK gTs_ok ly_33 rfl mw_DI_markFault tw_660 mi_DI_markFault ms_DI_markFault (As := []) rfl ⟨(Nat.le_of_ble_eq_true rfl), (Nat.le_of_ble_eq_true rfl), Nat.le_refl _, Nat.le_refl _⟩ (m_DI_markFault h) (rest := []) rfl (Nat.le_of_ble_eq_true rfl) dDI_firstFault_1 (gk_i (fun r1 M2 h => ?_))
  refine g_istore_n X (L' := [(1, .int r1), (0, .ref (base + 33))]) dDI_firstFault_4 rfl (Nat.le_of_ble_eq_true rfl) rfl ?_
  refine g_iload_n X dDI_firstFault_5 rfl 0 rfl ?_
  refine g_if_eq X dDI_firstFault_6 (fun c => ?_) (fun c => ?_)
  · have h := h.1 c
    refine g_aload_n X dDI_firstFault_13 rfl 1 rfl ?_
    refine g_callV X hK gTs_ok ly_33 rfl mw_DI_headerFault tw_674 mi_DI_headerFault ms_DI_headerFault (As := []) rfl ⟨(Nat.le_of_ble_eq_true rfl), (Nat.le_of_ble_eq_true rfl), Nat.le_refl _, Nat.le_refl _⟩ (m_DI_headerFault h) (rest := []) rfl (Nat.le_of_ble_eq_true rfl) dDI_firstFault_14 (gk_i (fun r3 M4 h => ?_))
    refine g_sub (L' := [(0, .ref (base + 33))]) [1] rfl ?_
    exact r_17 r3 M4 h
  · have h := h.2 c
    refine g_iload_n X dDI_firstFault_9 rfl 0 rfl ?_
    refine g_goto X dDI_firstFault_10 ?_
    refine g_sub (L' := [(0, .ref (base + 33))]) [1] rfl ?_
    exact r_17 r1 M2 h
set_option maxRecDepth 100000 in
set_option maxHeartbeats 4000000 in
theorem m_AR_fill1_11 {l : Launch} {D : va_G} {ta : Nat → ClassId} {base : Nat} {sa : Nat → Nat} {post : gMem → Prop} {a1 : Int32} {M : gMem} (h : wp_AR_fill1_11 post a1 M) : GC gLay gCl D ta base gNw sa gTabs gTs l y_AR_fill1 b_AR_fill1 4 none 0 0 [.ref (base + 11), .int a1] M (gPv post) := by
  refine GC.of (own := "java/util/Arrays") pn_AR rfl (Nat.le_of_ble_eq_true rfl) ?_
  intro p e s m below meth c X hK hr hlk
  have r_5 : ∀ (n : Nat) (v1 : Int32) (v2 : Int32) (v3 : Int32) (M : gMem), wl_AR_fill1_11_5 post n v1 v2 v3 M → GMx D ta base p l e 0 0 s m [.ref (base + 11), .int a1] below meth c (gPv post) 4 5 [(0, .ref (base + 11)), (1, .int v1), (2, .int v2), (3, .int v3)] [] M := by
    intro n
    induction n with
    | zero => exact fun _ _ _ M h => h.elim
    | succ n ih =>
      intro v1 v2 v3 M h
      refine g_iload_n X dAR_fill1_5 rfl 2 rfl ?_
      refine g_iload_n X dAR_fill1_6 rfl 3 rfl ?_
      refine g_icmp_ge X dAR_fill1_7 (fun c => ?_) (fun c => ?_)
      · have h := h.1 c
        exact g_vret X hr hlk dAR_fill1_20 ⟨rfl, h⟩
      · have h := h.2 c
        refine g_aload_n X dAR_fill1_10 rfl 0 rfl ?_
        refine g_iload_n X dAR_fill1_11 rfl 2 rfl ?_
        refine g_iload_n X dAR_fill1_12 rfl 1 rfl ?_
        obtain ⟨hi, h⟩ := h
        refine g_iast X hK.1 ly_11 hi dAR_fill1_13 ?_
        refine g_topM (fun M1 eM1 => ?_)
        have h := h M1 eM1
        obtain ⟨x2, ex2⟩ : ∃ z : Int32, z = v2 + (1 : Int32) := ⟨_, rfl⟩
        have h := h x2 ex2
        refine g_iinc X (L' := [(2, .int x2), (0, .ref (base + 11)), (1, .int v1), (3, .int v3)]) (k := 2) dAR_fill1_14 rfl (v := x2) (by rw [ex2]; rfl) (Nat.le_of_ble_eq_true rfl) rfl ?_
        refine g_goto X dAR_fill1_17 ?_
        refine g_sub (L' := [(0, .ref (base + 11)), (1, .int v1), (2, .int x2), (3, .int v3)]) [1, 2, 0, 3] rfl ?_
        exact ih v1 x2 v3 M1 h
  refine g_args (L' := [(0, .ref (base + 11)), (1, .int a1)]) rfl ?_
  unfold wp_AR_fill1_11 at h
  refine g_iconst X (v := (0 : Int32)) dAR_fill1_0 (by decide) ?_
  refine g_istore_n X (L' := [(2, .int (0 : Int32)), (0, .ref (base + 11)), (1, .int a1)]) dAR_fill1_1 rfl (Nat.le_of_ble_eq_true rfl) rfl ?_
  refine g_aload_n X dAR_fill1_2 rfl 1 rfl ?_
  refine g_alen X hK.1 ly_11 (by decide) (v := (4 : Int32)) (by decide) dAR_fill1_3 ?_
  refine g_istore_n X (L' := [(3, .int (4 : Int32)), (2, .int (0 : Int32)), (0, .ref (base + 11)), (1, .int a1)]) dAR_fill1_4 rfl (Nat.le_of_ble_eq_true rfl) rfl ?_
  refine g_sub (L' := [(0, .ref (base + 11)), (1, .int a1), (2, .int (0 : Int32)), (3, .int (4 : Int32))]) [2, 3, 1, 0] rfl ?_
  obtain ⟨n9, h⟩ := h
  exact r_5 n9 a1 (0 : Int32) (4 : Int32) M h
set_option maxRecDepth 100000 in
set_option maxHeartbeats 4000000 in
theorem m_AR_fill1_12 {l : Launch} {D : va_G} {ta : Nat → ClassId} {base : Nat} {sa : Nat → Nat} {post : gMem → Prop} {a1 : Int32} {M : gMem} (h : wp_AR_fill1_12 post a1 M) : GC gLay gCl D ta base gNw sa gTabs gTs l y_AR_fill1 b_AR_fill1 4 none 0 0 [.ref (base + 12), .int a1] M (gPv post) := by
  refine GC.of (own := "java/util/Arrays") pn_AR rfl (Nat.le_of_ble_eq_true rfl) ?_
  intro p e s m below meth c X hK hr hlk
  have r_5 : ∀ (n : Nat) (v1 : Int32) (v2 : Int32) (v3 : Int32) (M : gMem), wl_AR_fill1_12_5 post n v1 v2 v3 M → GMx D ta base p l e 0 0 s m [.ref (base + 12), .int a1] below meth c (gPv post) 4 5 [(0, .ref (base + 12)), (1, .int v1), (2, .int v2), (3, .int v3)] [] M := by
    intro n
    induction n with
    | zero => exact fun _ _ _ M h => h.elim
    | succ n ih =>
      intro v1 v2 v3 M h
      refine g_iload_n X dAR_fill1_5 rfl 2 rfl ?_
      refine g_iload_n X dAR_fill1_6 rfl 3 rfl ?_
      refine g_icmp_ge X dAR_fill1_7 (fun c => ?_) (fun c => ?_)
      · have h := h.1 c
        exact g_vret X hr hlk dAR_fill1_20 ⟨rfl, h⟩
      · have h := h.2 c
        refine g_aload_n X dAR_fill1_10 rfl 0 rfl ?_
        refine g_iload_n X dAR_fill1_11 rfl 2 rfl ?_
        refine g_iload_n X dAR_fill1_12 rfl 1 rfl ?_
        obtain ⟨hi, h⟩ := h
        refine g_iast X hK.1 ly_12 hi dAR_fill1_13 ?_
        refine g_topM (fun M1 eM1 => ?_)
        have h := h M1 eM1
        obtain ⟨x2, ex2⟩ : ∃ z : Int32, z = v2 + (1 : Int32) := ⟨_, rfl⟩
        have h := h x2 ex2
        refine g_iinc X (L' := [(2, .int x2), (0, .ref (base + 12)), (1, .int v1), (3, .int v3)]) (k := 2) dAR_fill1_14 rfl (v := x2) (by rw [ex2]; rfl) (Nat.le_of_ble_eq_true rfl) rfl ?_
        refine g_goto X dAR_fill1_17 ?_
        refine g_sub (L' := [(0, .ref (base + 12)), (1, .int v1), (2, .int x2), (3, .int v3)]) [1, 2, 0, 3] rfl ?_
        exact ih v1 x2 v3 M1 h
  refine g_args (L' := [(0, .ref (base + 12)), (1, .int a1)]) rfl ?_
  unfold wp_AR_fill1_12 at h
  refine g_iconst X (v := (0 : Int32)) dAR_fill1_0 (by decide) ?_
  refine g_istore_n X (L' := [(2, .int (0 : Int32)), (0, .ref (base + 12)), (1, .int a1)]) dAR_fill1_1 rfl (Nat.le_of_ble_eq_true rfl) rfl ?_
  refine g_aload_n X dAR_fill1_2 rfl 1 rfl ?_
  refine g_alen X hK.1 ly_12 (by decide) (v := (4 : Int32)) (by decide) dAR_fill1_3 ?_
  refine g_istore_n X (L' := [(3, .int (4 : Int32)), (2, .int (0 : Int32)), (0, .ref (base + 12)), (1, .int a1)]) dAR_fill1_4 rfl (Nat.le_of_ble_eq_true rfl) rfl ?_
  refine g_sub (L' := [(0, .ref (base + 12)), (1, .int a1), (2, .int (0 : Int32)), (3, .int (4 : Int32))]) [2, 3, 1, 0] rfl ?_
  obtain ⟨n9, h⟩ := h
  exact r_5 n9 a1 (0 : Int32) (4 : Int32) M h
set_option maxRecDepth 100000 in
set_option maxHeartbeats 4000000 in
theorem m_CT_reset_s {l : Launch} {D : va_G} {ta : Nat → ClassId} {base : Nat} {sa : Nat → Nat} {post : gMem → Prop} {M : gMem} (h : wp_CT_reset_s post M) : GC gLay gCl D ta base gNw sa gTabs gTs l y_CT_reset b_CT_reset 1 none 1 23 [.ref (base + 9)] M (gPv post) := by
  refine GC.of (own := "ObjectFile$Contents") pn_CT rfl (Nat.le_of_ble_eq_true rfl) ?_
  intro p e s m below meth c X hK hr hlk
  refine g_args (L' := [(0, .ref (base + 9))]) rfl ?_
  unfold wp_CT_reset_s at h
  refine g_aload_n X dCT_reset_0 rfl 0 rfl ?_
  refine g_getr X hK.1 fw_CT_15 ly_9 rfl dCT_reset_1 ?_
  refine g_iconst X (v := (0 : Int32)) dCT_reset_4 (by decide) ?_
  refine g_callS X hK gTs_ok mw_AR_fill1 tw_269 mt_AR_fill1 (As := [.ref (base + 11), .int (0 : Int32)]) rfl ⟨(Nat.le_of_ble_eq_true rfl), (Nat.le_of_ble_eq_true rfl), Nat.le_refl _, Nat.le_refl _⟩ (m_AR_fill1_11 h) (rest := []) rfl (Nat.le_of_ble_eq_true rfl) dCT_reset_5 (gk_v (fun M2 h => ?_))
  refine g_aload_n X dCT_reset_8 rfl 0 rfl ?_
  refine g_getr X hK.1 fw_CT_19 ly_9 rfl dCT_reset_9 ?_
  refine g_iconst X (v := (1 : Int32)) dCT_reset_12 (by decide) ?_
  refine g_callS X hK gTs_ok mw_AR_fill1 tw_269 mt_AR_fill1 (As := [.ref (base + 12), .int (1 : Int32)]) rfl ⟨(Nat.le_of_ble_eq_true rfl), (Nat.le_of_ble_eq_true rfl), Nat.le_refl _, Nat.le_refl _⟩ (m_AR_fill1_12 h) (rest := []) rfl (Nat.le_of_ble_eq_true rfl) dCT_reset_13 (gk_v (fun M4 h => ?_))
  refine g_aload_n X dCT_reset_16 rfl 0 rfl ?_
  refine g_iconst X (v := (0 : Int32)) dCT_reset_17 (by decide) ?_
  refine g_puti X hK.1 fw_CT_40 pw_CT_4 ly_9 rfl dCT_reset_18 ?_
  refine g_topM (fun M5 eM5 => ?_)
  have h := h M5 eM5
  refine g_aload_n X dCT_reset_21 rfl 0 rfl ?_
  refine g_iconst X (v := (0 : Int32)) dCT_reset_22 (by decide) ?_
  refine g_puti X hK.1 fw_CT_44 pw_CT_7 ly_9 rfl dCT_reset_23 ?_
  refine g_topM (fun M6 eM6 => ?_)
  have h := h M6 eM6
  refine g_aload_n X dCT_reset_26 rfl 0 rfl ?_
  refine g_iconst X (v := (0 : Int32)) dCT_reset_27 (by decide) ?_
  refine g_puti X hK.1 fw_CT_47 pw_CT_9 ly_9 rfl dCT_reset_28 ?_
  refine g_topM (fun M7 eM7 => ?_)
  have h := h M7 eM7
  exact g_vret X hr hlk dCT_reset_31 ⟨rfl, h⟩
set_option maxRecDepth 100000 in
set_option maxHeartbeats 4000000 in
theorem m_RE_symbolRows {l : Launch} {D : va_G} {ta : Nat → ClassId} {base : Nat} {sa : Nat → Nat} {post : Int32 → gMem → Prop} {M : gMem} (h : wp_RE_symbolRows post M) : GC gLay gCl D ta base gNw sa gTabs gTs l y_RE_symbolRows b_RE_symbolRows 1 (some .int) 0 0 [.ref (base + 39)] M (gPi post) := by
  refine GC.of (own := "ObjectFile$Reader") pn_RE rfl (Nat.le_of_ble_eq_true rfl) ?_
  intro p e s m below meth c X hK hr hlk
  refine g_args (L' := [(0, .ref (base + 39))]) rfl ?_
  unfold wp_RE_symbolRows at h
  refine g_aload_n X dRE_symbolRows_0 rfl 0 rfl ?_
  refine g_getr X hK.1 fw_RE_19 ly_39 rfl dRE_symbolRows_1 ?_
  refine g_getrN X hK.1 (gNw_of hK) fw_RE_33 ly_33 rfl dRE_symbolRows_4 ?_
  refine g_bipush X (v := (8 : Int32)) dRE_symbolRows_7 (by decide) ?_
  obtain ⟨hi, h⟩ := h
  refine g_iald X hK.1 ly_37 hi dRE_symbolRows_9 ?_
  refine g_bipush X (v := (16 : Int32)) dRE_symbolRows_10 (by decide) ?_
  refine g_idiv X dRE_symbolRows_12 (by decide) ?_
  exact g_iret X hr hlk dRE_symbolRows_13 ⟨_, rfl, h⟩
set_option maxRecDepth 100000 in
set_option maxHeartbeats 4000000 in
theorem m_RE_symbolNumber {l : Launch} {D : va_G} {ta : Nat → ClassId} {base : Nat} {sa : Nat → Nat} {post : Int32 → gMem → Prop} {a0 : Int32} {M : gMem} (h : wp_RE_symbolNumber post a0 M) : GC gLay gCl D ta base gNw sa gTabs gTs l y_RE_symbolNumber b_RE_symbolNumber 2 (some .int) 1 23 [.ref (base + 39), .int a0] M (gPi post) := by
  refine GC.of (own := "ObjectFile$Reader") pn_RE rfl (Nat.le_of_ble_eq_true rfl) ?_
  intro p e s m below meth c X hK hr hlk
  refine g_args (L' := [(0, .ref (base + 39)), (1, .int a0)]) rfl ?_
  unfold wp_RE_symbolNumber at h
  refine g_aload_n X dRE_symbolNumber_0 rfl 0 rfl ?_
  refine g_getr X hK.1 fw_RE_9 ly_39 rfl dRE_symbolNumber_1 ?_
  refine g_iload_n X dRE_symbolNumber_4 rfl 1 rfl ?_
  refine g_iconst X (v := (4 : Int32)) dRE_symbolNumber_5 (by decide) ?_
  refine g_iadd X dRE_symbolNumber_6 ?_
  refine g_callVN X hK gTs_ok ly_17 rfl mw_FB_u4 nw_799 mi_FB_u4 ms_FB_u4 (As := [.int (a0 + (4 : Int32))]) rfl ⟨(Nat.le_of_ble_eq_true rfl), (Nat.le_of_ble_eq_true rfl), Nat.le_refl _, Nat.le_refl _⟩ (m_FB_u4 h) (rest := []) rfl (Nat.le_of_ble_eq_true rfl) dRE_symbolNumber_7 (gk_l (fun r1 M2 h => ?_))
  refine g_bipush X (v := (8 : Int32)) dRE_symbolNumber_10 (by decide) ?_
  refine g_lushr X dRE_symbolNumber_12 rfl ?_
  refine g_l2i X dRE_symbolNumber_13 rfl ?_
  exact g_iret X hr hlk dRE_symbolNumber_14 ⟨_, rfl, h⟩
set_option maxRecDepth 100000 in
set_option maxHeartbeats 4000000 in
theorem m_CT_addRelocation_s {l : Launch} {D : va_G} {ta : Nat → ClassId} {base : Nat} {sa : Nat → Nat} {post : Int32 → gMem → Prop} {a0 : Int32} {a1 : Int32} {a2 : Int32} {a3 : Int32} {a4 : Int32} {M : gMem} (h : wp_CT_addRelocation_s post a0 a1 a2 a3 a4 M) : GC gLay gCl D ta base gNw sa gTabs gTs l y_CT_addRelocation b_CT_addRelocation 8 (some .int) 0 0 [.ref (base + 9), .int a0, .int a1, .int a2, .int a3, .int a4] M (gPi post) := by
  refine GC.of (own := "ObjectFile$Contents") pn_CT rfl (Nat.le_of_ble_eq_true rfl) ?_
  intro p e s m below meth c X hK hr hlk
  refine g_args (L' := [(0, .ref (base + 9)), (1, .int a0), (2, .int a1), (3, .int a2), (4, .int a3), (5, .int a4)]) rfl ?_
  unfold wp_CT_addRelocation_s at h
  refine g_aload_n X dCT_addRelocation_0 rfl 0 rfl ?_
  refine g_geti X hK.1 fw_CT_47 ly_9 rfl dCT_addRelocation_1 ?_
  refine g_if_lt X dCT_addRelocation_4 (fun c => ?_) (fun c => ?_)
  · have h := h.1 c
    refine g_iconst X (v := (-1 : Int32)) dCT_addRelocation_17 (by decide) ?_
    exact g_iret X hr hlk dCT_addRelocation_18 ⟨_, rfl, h⟩
  · have h := h.2 c
    refine g_aload_n X dCT_addRelocation_7 rfl 0 rfl ?_
    refine g_geti X hK.1 fw_CT_47 ly_9 rfl dCT_addRelocation_8 ?_
    refine g_sipush X (v := (300 : Int32)) dCT_addRelocation_11 (by decide) ?_
    refine g_icmp_lt X dCT_addRelocation_14 (fun c => ?_) (fun c => ?_)
    · have h := h.1 c
      refine g_aload_n X dCT_addRelocation_19 rfl 0 rfl ?_
      refine g_geti X hK.1 fw_CT_47 ly_9 rfl dCT_addRelocation_20 ?_
      refine g_topi (fun x1 ex1 => ?_)
      have h := h x1 ex1
      refine g_istore X (L' := [(6, .int x1), (0, .ref (base + 9)), (1, .int a0), (2, .int a1), (3, .int a2), (4, .int a3), (5, .int a4)]) dCT_addRelocation_23 (Nat.le_of_ble_eq_true rfl) rfl ?_
      refine g_aload_n X dCT_addRelocation_25 rfl 1 rfl ?_
      refine g_dup X dCT_addRelocation_26 rfl ?_
      refine g_geti X hK.1 fw_CT_47 ly_9 rfl dCT_addRelocation_27 ?_
      refine g_iconst X (v := (1 : Int32)) dCT_addRelocation_30 (by decide) ?_
      refine g_iadd X dCT_addRelocation_31 ?_
      refine g_puti X hK.1 fw_CT_47 pw_CT_9 ly_9 rfl dCT_addRelocation_32 ?_
      refine g_topM (fun M2 eM2 => ?_)
      have h := h M2 eM2
      refine g_iload X dCT_addRelocation_35 0 rfl ?_
      refine g_iconst X (v := (5 : Int32)) dCT_addRelocation_37 (by decide) ?_
      refine g_imul X dCT_addRelocation_38 ?_
      refine g_topi (fun x3 ex3 => ?_)
      have h := h x3 ex3
      refine g_istore X (L' := [(7, .int x3), (6, .int x1), (0, .ref (base + 9)), (1, .int a0), (2, .int a1), (3, .int a2), (4, .int a3), (5, .int a4)]) dCT_addRelocation_39 (Nat.le_of_ble_eq_true rfl) rfl ?_
      refine g_aload_n X dCT_addRelocation_41 rfl 2 rfl ?_
      refine g_getr X hK.1 fw_CT_31 ly_9 rfl dCT_addRelocation_42 ?_
      refine g_iload X dCT_addRelocation_45 0 rfl ?_
      refine g_iconst X (v := (0 : Int32)) dCT_addRelocation_47 (by decide) ?_
      refine g_iadd X dCT_addRelocation_48 ?_
      refine g_iload_n X dCT_addRelocation_49 rfl 3 rfl ?_
      obtain ⟨hi, h⟩ := h
      refine g_iast X hK.1 ly_16 hi dCT_addRelocation_50 ?_
      refine g_topM (fun M4 eM4 => ?_)
      have h := h M4 eM4
      refine g_aload_n X dCT_addRelocation_51 rfl 2 rfl ?_
      refine g_getr X hK.1 fw_CT_31 ly_9 rfl dCT_addRelocation_52 ?_
      refine g_iload X dCT_addRelocation_55 0 rfl ?_
      refine g_iconst X (v := (1 : Int32)) dCT_addRelocation_57 (by decide) ?_
      refine g_iadd X dCT_addRelocation_58 ?_
      refine g_iload_n X dCT_addRelocation_59 rfl 4 rfl ?_
      obtain ⟨hi, h⟩ := h
      refine g_iast X hK.1 ly_16 hi dCT_addRelocation_60 ?_
      refine g_topM (fun M5 eM5 => ?_)
      have h := h M5 eM5
      refine g_aload_n X dCT_addRelocation_61 rfl 2 rfl ?_
      refine g_getr X hK.1 fw_CT_31 ly_9 rfl dCT_addRelocation_62 ?_
      refine g_iload X dCT_addRelocation_65 0 rfl ?_
      refine g_iconst X (v := (2 : Int32)) dCT_addRelocation_67 (by decide) ?_
      refine g_iadd X dCT_addRelocation_68 ?_
      refine g_iload_n X dCT_addRelocation_69 rfl 5 rfl ?_
      obtain ⟨hi, h⟩ := h
      refine g_iast X hK.1 ly_16 hi dCT_addRelocation_70 ?_
      refine g_topM (fun M6 eM6 => ?_)
      have h := h M6 eM6
      refine g_aload_n X dCT_addRelocation_71 rfl 2 rfl ?_
      refine g_getr X hK.1 fw_CT_31 ly_9 rfl dCT_addRelocation_72 ?_
      refine g_iload X dCT_addRelocation_75 0 rfl ?_
      refine g_iconst X (v := (3 : Int32)) dCT_addRelocation_77 (by decide) ?_
      refine g_iadd X dCT_addRelocation_78 ?_
      refine g_iload X dCT_addRelocation_79 6 rfl ?_
      obtain ⟨hi, h⟩ := h
      refine g_iast X hK.1 ly_16 hi dCT_addRelocation_81 ?_
      refine g_topM (fun M7 eM7 => ?_)
      have h := h M7 eM7
      refine g_aload_n X dCT_addRelocation_82 rfl 2 rfl ?_
      refine g_getr X hK.1 fw_CT_31 ly_9 rfl dCT_addRelocation_83 ?_
      refine g_iload X dCT_addRelocation_86 0 rfl ?_
      refine g_iconst X (v := (4 : Int32)) dCT_addRelocation_88 (by decide) ?_
      refine g_iadd X dCT_addRelocation_89 ?_
      refine g_iload X dCT_addRelocation_90 7 rfl ?_
      obtain ⟨hi, h⟩ := h
      refine g_iast X hK.1 ly_16 hi dCT_addRelocation_92 ?_
      refine g_topM (fun M8 eM8 => ?_)
      have h := h M8 eM8
      refine g_iload X dCT_addRelocation_93 1 rfl ?_
      exact g_iret X hr hlk dCT_addRelocation_95 ⟨_, rfl, h⟩
    · have h := h.2 c
      refine g_iconst X (v := (-1 : Int32)) dCT_addRelocation_17 (by decide) ?_
      exact g_iret X hr hlk dCT_addRelocation_18 ⟨_, rfl, h⟩
set_option maxRecDepth 100000 in
set_option maxHeartbeats 4000000 in
theorem m_RE_fillRelocations_9 {l : Launch} {D : va_G} {ta : Nat → ClassId} {base : Nat} {sa : Nat → Nat} {post : gMem → Prop} {a1 : Int32} {M : gMem} (h : wp_RE_fillRelocations_9 post a1 M) : GC gLay gCl D ta base gNw sa gTabs gTs l y_RE_fillRelocations b_RE_fillRelocations 7 none 2 44 [.ref (base + 39), .ref (base + 9), .int a1] M (gPv post) := by
  refine GC.of (own := "ObjectFile$Reader") pn_RE rfl (Nat.le_of_ble_eq_true rfl) ?_
  intro p e s m below meth c X hK hr hlk
  have r_30 : ∀ (n : Nat) (v2 : Int32) (v4 : Int32) (v5 : Int32) (M : gMem), wl_RE_fillRelocations_9_30 post n v2 v4 v5 M → GMx D ta base p l e 2 44 s m [.ref (base + 39), .ref (base + 9), .int a1] below meth c (gPv post) 7 30 [(0, .ref (base + 39)), (1, .ref (base + 9)), (2, .int v2), (4, .int v4), (5, .int v5)] [] M := by
    intro n
    induction n with
    | zero => exact fun _ _ _ M h => h.elim
    | succ n ih =>
      intro v2 v4 v5 M h
      refine g_iload X dRE_fillRelocations_30 4 rfl ?_
      refine g_iload X dRE_fillRelocations_32 3 rfl ?_
      refine g_icmp_ge X dRE_fillRelocations_34 (fun c => ?_) (fun c => ?_)
      · have h := h.1 c
        exact g_vret X hr hlk dRE_fillRelocations_95 ⟨rfl, h⟩
      · have h := h.2 c
        refine g_aload_n X dRE_fillRelocations_37 rfl 0 rfl ?_
        refine g_iload X dRE_fillRelocations_38 4 rfl ?_
        refine g_callV X hK gTs_ok ly_39 rfl mw_RE_symbolNumber tw_847 mi_RE_symbolNumber ms_RE_symbolNumber (As := [.int v5]) rfl ⟨(Nat.le_of_ble_eq_true rfl), (Nat.le_of_ble_eq_true rfl), Nat.le_refl _, Nat.le_refl _⟩ (m_RE_symbolNumber h) (rest := []) rfl (Nat.le_of_ble_eq_true rfl) dRE_fillRelocations_40 (gk_i (fun r3 M4 h => ?_))
        refine g_iconst X (v := (1 : Int32)) dRE_fillRelocations_43 (by decide) ?_
        refine g_isub X dRE_fillRelocations_44 ?_
        refine g_topi (fun x5 ex5 => ?_)
        have h := h x5 ex5
        refine g_istore X (L' := [(6, .int x5), (0, .ref (base + 39)), (1, .ref (base + 9)), (2, .int v2), (4, .int v4), (5, .int v5)]) dRE_fillRelocations_45 (Nat.le_of_ble_eq_true rfl) rfl ?_
        refine g_aload_n X dRE_fillRelocations_47 rfl 2 rfl ?_
        refine g_iload_n X dRE_fillRelocations_48 rfl 3 rfl ?_
        refine g_aload_n X dRE_fillRelocations_49 rfl 1 rfl ?_
        refine g_getr X hK.1 fw_RE_9 ly_39 rfl dRE_fillRelocations_50 ?_
        refine g_iload X dRE_fillRelocations_53 5 rfl ?_
        refine g_callVN X hK gTs_ok ly_17 rfl mw_FB_u4 nw_799 mi_FB_u4 ms_FB_u4 (As := [.int v5]) rfl ⟨(Nat.le_of_ble_eq_true rfl), (Nat.le_of_ble_eq_true rfl), Nat.le_refl _, Nat.le_refl _⟩ (m_FB_u4 h) (rest := [.int v2, .ref (base + 9)]) rfl (Nat.le_of_ble_eq_true rfl) dRE_fillRelocations_55 (gk_l (fun r6 M7 h => ?_))
        refine g_l2i X dRE_fillRelocations_58 rfl ?_
        refine g_aload_n X dRE_fillRelocations_59 rfl 1 rfl ?_
        refine g_getr X hK.1 fw_RE_9 ly_39 rfl dRE_fillRelocations_60 ?_
        refine g_iload X dRE_fillRelocations_63 5 rfl ?_
        refine g_iconst X (v := (4 : Int32)) dRE_fillRelocations_65 (by decide) ?_
        refine g_iadd X dRE_fillRelocations_66 ?_
        refine g_callVN X hK gTs_ok ly_17 rfl mw_FB_u1 nw_785 mi_FB_u1 ms_FB_u1 (As := [.int (v5 + (4 : Int32))]) rfl ⟨(Nat.le_of_ble_eq_true rfl), (Nat.le_of_ble_eq_true rfl), Nat.le_refl _, Nat.le_refl _⟩ (m_FB_u1 h) (rest := [.int (r6.toInt32), .int v2, .ref (base + 9)]) rfl (Nat.le_of_ble_eq_true rfl) dRE_fillRelocations_67 (gk_i (fun r8 M9 h => ?_))
        refine g_iload X dRE_fillRelocations_70 0 rfl ?_
        refine g_aload_n X dRE_fillRelocations_72 rfl 1 rfl ?_
        refine g_getr X hK.1 fw_RE_9 ly_39 rfl dRE_fillRelocations_73 ?_
        refine g_iload X dRE_fillRelocations_76 5 rfl ?_
        refine g_bipush X (v := (8 : Int32)) dRE_fillRelocations_78 (by decide) ?_
        refine g_iadd X dRE_fillRelocations_80 ?_
        refine g_callVN X hK gTs_ok ly_17 rfl mw_FB_u4 nw_799 mi_FB_u4 ms_FB_u4 (As := [.int (v5 + (8 : Int32))]) rfl ⟨(Nat.le_of_ble_eq_true rfl), (Nat.le_of_ble_eq_true rfl), Nat.le_refl _, Nat.le_refl _⟩ (m_FB_u4 h) (rest := [.int x5, .int r8, .int (r6.toInt32), .int v2, .ref (base + 9)]) rfl (Nat.le_of_ble_eq_true rfl) dRE_fillRelocations_81 (gk_l (fun r10 M11 h => ?_))
        refine g_l2i X dRE_fillRelocations_84 rfl ?_
        refine g_callVN X hK gTs_ok ly_9 rfl mw_CT_addRelocation nw_879 mi_CT_addRelocation ms_CT_addRelocation (As := [.int v2, .int (r6.toInt32), .int r8, .int x5, .int (r10.toInt32)]) rfl ⟨(Nat.le_of_ble_eq_true rfl), (Nat.le_of_ble_eq_true rfl), Nat.le_refl _, Nat.le_refl _⟩ (m_CT_addRelocation_s h) (rest := []) rfl (Nat.le_of_ble_eq_true rfl) dRE_fillRelocations_85 (gk_i (fun r12 M13 h => ?_))
        refine g_pop X dRE_fillRelocations_88 rfl ?_
        obtain ⟨x14, ex14⟩ : ∃ z : Int32, z = v5 + (12 : Int32) := ⟨_, rfl⟩
        have h := h x14 ex14
        refine g_iinc X (L' := [(5, .int x14), (6, .int x5), (0, .ref (base + 39)), (1, .ref (base + 9)), (2, .int v2), (4, .int v4)]) (k := 5) dRE_fillRelocations_89 rfl (v := x14) (by rw [ex14]; rfl) (Nat.le_of_ble_eq_true rfl) rfl ?_
        refine g_goto X dRE_fillRelocations_92 ?_
        refine g_sub (L' := [(0, .ref (base + 39)), (1, .ref (base + 9)), (2, .int v2), (4, .int v4), (5, .int x14)]) [2, 3, 4, 5, 0] rfl ?_
        exact ih v2 v4 x14 M13 h
  refine g_args (L' := [(0, .ref (base + 39)), (1, .ref (base + 9)), (2, .int a1)]) rfl ?_
  unfold wp_RE_fillRelocations_9 at h
  refine g_aload_n X dRE_fillRelocations_0 rfl 0 rfl ?_
  refine g_getr X hK.1 fw_RE_19 ly_39 rfl dRE_fillRelocations_1 ?_
  refine g_getrN X hK.1 (gNw_of hK) fw_RE_39 ly_33 rfl dRE_fillRelocations_4 ?_
  refine g_iconst X (v := (5 : Int32)) dRE_fillRelocations_7 (by decide) ?_
  refine g_iload_n X dRE_fillRelocations_8 rfl 2 rfl ?_
  refine g_iadd X dRE_fillRelocations_9 ?_
  obtain ⟨hi, h⟩ := h
  refine g_iald X hK.1 ly_36 hi dRE_fillRelocations_10 ?_
  refine g_topi (fun x1 ex1 => ?_)
  have h := h x1 ex1
  refine g_istore_n X (L' := [(3, .int x1), (0, .ref (base + 39)), (1, .ref (base + 9)), (2, .int a1)]) dRE_fillRelocations_11 rfl (Nat.le_of_ble_eq_true rfl) rfl ?_
  refine g_iload_n X dRE_fillRelocations_12 rfl 0 rfl ?_
  refine g_aload_n X dRE_fillRelocations_13 rfl 1 rfl ?_
  refine g_getr X hK.1 fw_RE_19 ly_39 rfl dRE_fillRelocations_14 ?_
  refine g_getrN X hK.1 (gNw_of hK) fw_RE_33 ly_33 rfl dRE_fillRelocations_17 ?_
  refine g_iconst X (v := (5 : Int32)) dRE_fillRelocations_20 (by decide) ?_
  refine g_iload_n X dRE_fillRelocations_21 rfl 3 rfl ?_
  refine g_iadd X dRE_fillRelocations_22 ?_
  obtain ⟨hi, h⟩ := h
  refine g_iald X hK.1 ly_37 hi dRE_fillRelocations_23 ?_
  refine g_iadd X dRE_fillRelocations_24 ?_
  refine g_topi (fun x2 ex2 => ?_)
  have h := h x2 ex2
  refine g_istore X (L' := [(4, .int x2), (3, .int x1), (0, .ref (base + 39)), (1, .ref (base + 9)), (2, .int a1)]) dRE_fillRelocations_25 (Nat.le_of_ble_eq_true rfl) rfl ?_
  refine g_iload_n X dRE_fillRelocations_27 rfl 1 rfl ?_
  refine g_istore X (L' := [(5, .int x1), (4, .int x2), (3, .int x1), (0, .ref (base + 39)), (1, .ref (base + 9)), (2, .int a1)]) dRE_fillRelocations_28 (Nat.le_of_ble_eq_true rfl) rfl ?_
  refine g_sub (L' := [(0, .ref (base + 39)), (1, .ref (base + 9)), (2, .int a1), (4, .int x2), (5, .int x1)]) [3, 4, 5, 1, 0] rfl ?_
  obtain ⟨n9, h⟩ := h
  exact r_30 n9 a1 x2 x1 M h
set_option maxRecDepth 100000 in
set_option maxHeartbeats 4000000 in
theorem m_RE_nameSpot {l : Launch} {D : va_G} {ta : Nat → ClassId} {base : Nat} {sa : Nat → Nat} {post : Int32 → gMem → Prop} {a0 : Int32} {M : gMem} (h : wp_RE_nameSpot post a0 M) : GC gLay gCl D ta base gNw sa gTabs gTs l y_RE_nameSpot b_RE_nameSpot 2 (some .int) 1 23 [.ref (base + 39), .int a0] M (gPi post) := by
  refine GC.of (own := "ObjectFile$Reader") pn_RE rfl (Nat.le_of_ble_eq_true rfl) ?_
  intro p e s m below meth c X hK hr hlk
  refine g_args (L' := [(0, .ref (base + 39)), (1, .int a0)]) rfl ?_
  unfold wp_RE_nameSpot at h
  refine g_aload_n X dRE_nameSpot_0 rfl 0 rfl ?_
  refine g_getr X hK.1 fw_RE_19 ly_39 rfl dRE_nameSpot_1 ?_
  refine g_getrN X hK.1 (gNw_of hK) fw_RE_39 ly_33 rfl dRE_nameSpot_4 ?_
  refine g_bipush X (v := (9 : Int32)) dRE_nameSpot_7 (by decide) ?_
  obtain ⟨hi, h⟩ := h
  refine g_iald X hK.1 ly_36 hi dRE_nameSpot_9 ?_
  refine g_aload_n X dRE_nameSpot_10 rfl 0 rfl ?_
  refine g_getr X hK.1 fw_RE_9 ly_39 rfl dRE_nameSpot_11 ?_
  refine g_iload_n X dRE_nameSpot_14 rfl 1 rfl ?_
  refine g_callVN X hK gTs_ok ly_17 rfl mw_FB_u4 nw_799 mi_FB_u4 ms_FB_u4 (As := [.int a0]) rfl ⟨(Nat.le_of_ble_eq_true rfl), (Nat.le_of_ble_eq_true rfl), Nat.le_refl _, Nat.le_refl _⟩ (m_FB_u4 h) (rest := [.int (M 36 ((9 : Int32)).toNatClampNeg)]) rfl (Nat.le_of_ble_eq_true rfl) dRE_nameSpot_15 (gk_l (fun r1 M2 h => ?_))
  refine g_l2i X dRE_nameSpot_18 rfl ?_
  refine g_iadd X dRE_nameSpot_19 ?_
  exact g_iret X hr hlk dRE_nameSpot_20 ⟨_, rfl, h⟩
set_option maxRecDepth 100000 in
set_option maxHeartbeats 4000000 in
theorem m_RE_nameLength {l : Launch} {D : va_G} {ta : Nat → ClassId} {base : Nat} {sa : Nat → Nat} {post : Int32 → gMem → Prop} {a0 : Int32} {M : gMem} (h : wp_RE_nameLength post a0 M) : GC gLay gCl D ta base gNw sa gTabs gTs l y_RE_nameLength b_RE_nameLength 5 (some .int) 2 44 [.ref (base + 39), .int a0] M (gPi post) := by
  refine GC.of (own := "ObjectFile$Reader") pn_RE rfl (Nat.le_of_ble_eq_true rfl) ?_
  intro p e s m below meth c X hK hr hlk
  have r_33 : ∀ (n : Nat) (v2 : Int32) (v3 : Int32) (M : gMem), wl_RE_nameLength_33 post n v2 v3 M → GMx D ta base p l e 2 44 s m [.ref (base + 39), .int a0] below meth c (gPi post) 5 33 [(0, .ref (base + 39)), (2, .int v2), (3, .int v3)] [] M := by
    intro n
    induction n with
    | zero => exact fun _ _ M h => h.elim
    | succ n ih =>
      intro v2 v3 M h
      refine g_iload_n X dRE_nameLength_33 rfl 2 rfl ?_
      refine g_bipush X (v := (16 : Int32)) dRE_nameLength_34 (by decide) ?_
      refine g_icmp_gt X dRE_nameLength_36 (fun c => ?_) (fun c => ?_)
      · have h := h.1 c
        refine g_iconst X (v := (-1 : Int32)) dRE_nameLength_82 (by decide) ?_
        exact g_iret X hr hlk dRE_nameLength_83 ⟨_, rfl, h⟩
      · have h := h.2 c
        refine g_aload_n X dRE_nameLength_39 rfl 0 rfl ?_
        refine g_getr X hK.1 fw_RE_9 ly_39 rfl dRE_nameLength_40 ?_
        refine g_iload_n X dRE_nameLength_43 rfl 1 rfl ?_
        refine g_iload_n X dRE_nameLength_44 rfl 2 rfl ?_
        refine g_iadd X dRE_nameLength_45 ?_
        refine g_callVN X hK gTs_ok ly_17 rfl mw_FB_u1 nw_785 mi_FB_u1 ms_FB_u1 (As := [.int (v2 + v3)]) rfl ⟨(Nat.le_of_ble_eq_true rfl), (Nat.le_of_ble_eq_true rfl), Nat.le_refl _, Nat.le_refl _⟩ (m_FB_u1 h) (rest := []) rfl (Nat.le_of_ble_eq_true rfl) dRE_nameLength_46 (gk_i (fun r5 M6 h => ?_))
        refine g_istore X (L' := [(4, .int r5), (0, .ref (base + 39)), (2, .int v2), (3, .int v3)]) dRE_nameLength_49 (Nat.le_of_ble_eq_true rfl) rfl ?_
        refine g_iload X dRE_nameLength_51 0 rfl ?_
        refine g_if_ne X dRE_nameLength_53 (fun c => ?_) (fun c => ?_)
        · have h := h.1 c
          refine g_iload X dRE_nameLength_66 0 rfl ?_
          refine g_callSN X hK gTs_ok mw_OF_isNameCharacter nw_804 mt_OF_isNameCharacter (As := [.int r5]) rfl ⟨(Nat.le_of_ble_eq_true rfl), (Nat.le_of_ble_eq_true rfl), Nat.le_refl _, Nat.le_refl _⟩ (m_OF_isNameCharacter h) (rest := []) rfl (Nat.le_of_ble_eq_true rfl) dRE_nameLength_68 (gk_z (fun r7 M8 h => ?_))
          refine g_if_ne X dRE_nameLength_71 (fun c => ?_) (fun c => ?_)
          · have h := h.1 c
            obtain ⟨x9, ex9⟩ : ∃ z : Int32, z = v3 + (1 : Int32) := ⟨_, rfl⟩
            have h := h x9 ex9
            refine g_iinc X (L' := [(3, .int x9), (4, .int r5), (0, .ref (base + 39)), (2, .int v2)]) (k := 3) dRE_nameLength_76 rfl (v := x9) (by rw [ex9]; rfl) (Nat.le_of_ble_eq_true rfl) rfl ?_
            refine g_goto X dRE_nameLength_79 ?_
            refine g_sub (L' := [(0, .ref (base + 39)), (2, .int v2), (3, .int x9)]) [2, 3, 0] rfl ?_
            exact ih v2 x9 M8 h
          · have h := h.2 c
            refine g_iconst X (v := (-1 : Int32)) dRE_nameLength_74 (by decide) ?_
            exact g_iret X hr hlk dRE_nameLength_75 ⟨_, rfl, h⟩
        · have h := h.2 c
          refine g_iload_n X dRE_nameLength_56 rfl 3 rfl ?_
          refine g_if_ne X dRE_nameLength_57 (fun c => ?_) (fun c => ?_)
          · have h := h.1 c
            refine g_iload_n X dRE_nameLength_64 rfl 3 rfl ?_
            exact g_iret X hr hlk dRE_nameLength_65 ⟨_, rfl, h⟩
          · have h := h.2 c
            refine g_iconst X (v := (-1 : Int32)) dRE_nameLength_60 (by decide) ?_
            refine g_goto X dRE_nameLength_61 ?_
            exact g_iret X hr hlk dRE_nameLength_65 ⟨_, rfl, h⟩
  refine g_args (L' := [(0, .ref (base + 39)), (1, .int a0)]) rfl ?_
  unfold wp_RE_nameLength at h
  refine g_aload_n X dRE_nameLength_0 rfl 0 rfl ?_
  refine g_getr X hK.1 fw_RE_9 ly_39 rfl dRE_nameLength_1 ?_
  refine g_iload_n X dRE_nameLength_4 rfl 1 rfl ?_
  refine g_callVN X hK gTs_ok ly_17 rfl mw_FB_u4 nw_799 mi_FB_u4 ms_FB_u4 (As := [.int a0]) rfl ⟨(Nat.le_of_ble_eq_true rfl), (Nat.le_of_ble_eq_true rfl), Nat.le_refl _, Nat.le_refl _⟩ (m_FB_u4 h) (rest := []) rfl (Nat.le_of_ble_eq_true rfl) dRE_nameLength_5 (gk_l (fun r1 M2 h => ?_))
  refine g_aload_n X dRE_nameLength_8 rfl 0 rfl ?_
  refine g_getr X hK.1 fw_RE_19 ly_39 rfl dRE_nameLength_9 ?_
  refine g_getrN X hK.1 (gNw_of hK) fw_RE_33 ly_33 rfl dRE_nameLength_12 ?_
  refine g_bipush X (v := (9 : Int32)) dRE_nameLength_15 (by decide) ?_
  obtain ⟨hi, h⟩ := h
  refine g_iald X hK.1 ly_37 hi dRE_nameLength_17 ?_
  refine g_i2l X dRE_nameLength_18 rfl ?_
  refine g_lif_lt X dRE_nameLength_19 dRE_nameLength_20 (fun c => ?_) (fun c => ?_)
  · have h := h.1 c
    refine g_aload_n X dRE_nameLength_25 rfl 0 rfl ?_
    refine g_iload_n X dRE_nameLength_26 rfl 1 rfl ?_
    refine g_callV X hK gTs_ok ly_39 rfl mw_RE_nameSpot tw_800 mi_RE_nameSpot ms_RE_nameSpot (As := [.int a0]) rfl ⟨(Nat.le_of_ble_eq_true rfl), (Nat.le_of_ble_eq_true rfl), Nat.le_refl _, Nat.le_refl _⟩ (m_RE_nameSpot h) (rest := []) rfl (Nat.le_of_ble_eq_true rfl) dRE_nameLength_27 (gk_i (fun r3 M4 h => ?_))
    refine g_istore_n X (L' := [(2, .int r3), (0, .ref (base + 39)), (1, .int a0)]) dRE_nameLength_30 rfl (Nat.le_of_ble_eq_true rfl) rfl ?_
    refine g_iconst X (v := (0 : Int32)) dRE_nameLength_31 (by decide) ?_
    refine g_istore_n X (L' := [(3, .int (0 : Int32)), (2, .int r3), (0, .ref (base + 39)), (1, .int a0)]) dRE_nameLength_32 rfl (Nat.le_of_ble_eq_true rfl) rfl ?_
    refine g_sub (L' := [(0, .ref (base + 39)), (2, .int r3), (3, .int (0 : Int32))]) [2, 1, 0] rfl ?_
    obtain ⟨n9, h⟩ := h
    exact r_33 n9 r3 (0 : Int32) M4 h
  · have h := h.2 c
    refine g_iconst X (v := (-1 : Int32)) dRE_nameLength_23 (by decide) ?_
    exact g_iret X hr hlk dRE_nameLength_24 ⟨_, rfl, h⟩
