set_option maxRecDepth 100000 in
set_option maxHeartbeats 4000000 in
theorem m_MO_allFaults {l : Launch} {D : va_G} {ta : Nat → ClassId} {base : Nat} {sa : Nat → Nat} {post : Int32 → gMem → Prop} {M : gMem} (h : wp_MO_allFaults post M) : GC gLay gCl D ta base gNw sa gTabs gTs l y_MO_allFaults b_MO_allFaults 5 (some .int) 8 181 [.ref (base + 41)] M (gPi post) := by
  refine GC.of (own := "ObjectFileModel") pn_MO rfl (Nat.le_of_ble_eq_true rfl) ?_
  intro p e s m below meth c X hK hr hlk
  have r_202 : ∀ (v1 : Int32) (M : gMem), wj_MO_allFaults_202 post v1 M → GMx D ta base p l e 8 181 s m [.ref (base + 41)] below meth c (gPi post) 5 202 [(0, .ref (base + 41)), (1, .int v1)] [] M := by
    intro v1 M h
    unfold wj_MO_allFaults_202 at h
    refine g_iload_n X dMO_allFaults_202 rfl 1 rfl ?_
    refine g_if_eq X dMO_allFaults_203 (fun c => ?_) (fun c => ?_)
    · have h := h.1 c
      refine g_aload_n X dMO_allFaults_210 rfl 0 rfl ?_
      refine g_callV X hK gTs_ok ly_41 rfl mw_MO_startFaults tw_1357 mi_MO_startFaults ms_MO_startFaults (As := []) rfl ⟨(Nat.le_of_ble_eq_true rfl), (Nat.le_of_ble_eq_true rfl), Nat.le_refl _, Nat.le_refl _⟩ (m_MO_startFaults h) (rest := []) rfl (Nat.le_of_ble_eq_true rfl) dMO_allFaults_211 (gk_i (fun r11 M12 h => ?_))
      exact g_iret X hr hlk dMO_allFaults_214 ⟨_, rfl, h⟩
    · have h := h.2 c
      refine g_iload_n X dMO_allFaults_206 rfl 1 rfl ?_
      refine g_goto X dMO_allFaults_207 ?_
      exact g_iret X hr hlk dMO_allFaults_214 ⟨_, rfl, h⟩
  have r_161 : ∀ (k136 : Int32 → Int32 → gMem → Prop) (hk136 : ∀ (v1 : Int32) (v2 : Int32) (M : gMem), k136 v1 v2 M → GMx D ta base p l e 8 181 s m [.ref (base + 41)] below meth c (gPi post) 5 136 [(0, .ref (base + 41)), (1, .int v1), (2, .int v2)] [] M) (n : Nat) (v1 : Int32) (v2 : Int32) (v3 : Int32) (v4 : Int32) (M : gMem), wl_MO_allFaults_161 post k136 n v1 v2 v3 v4 M → GMx D ta base p l e 8 181 s m [.ref (base + 41)] below meth c (gPi post) 5 161 [(0, .ref (base + 41)), (1, .int v1), (2, .int v2), (3, .int v3), (4, .int v4)] [] M := by
    intro k136 hk136 n
    induction n with
    | zero => exact fun _ _ _ _ M h => h.elim
    | succ n ih =>
      intro v1 v2 v3 v4 M h
      refine g_iload X dMO_allFaults_161 4 rfl ?_
      refine g_iload_n X dMO_allFaults_163 rfl 3 rfl ?_
      refine g_icmp_ge X dMO_allFaults_164 (fun c => ?_) (fun c => ?_)
      · have h := h.1 c
        obtain ⟨x16, ex16⟩ : ∃ z : Int32, z = v2 + (1 : Int32) := ⟨_, rfl⟩
        have h := h x16 ex16
        refine g_iinc X (L' := [(2, .int x16), (0, .ref (base + 41)), (1, .int v1), (3, .int v3), (4, .int v4)]) (k := 2) dMO_allFaults_196 rfl (v := x16) (by rw [ex16]; rfl) (Nat.le_of_ble_eq_true rfl) rfl ?_
        refine g_goto X dMO_allFaults_199 ?_
        refine g_sub (L' := [(0, .ref (base + 41)), (1, .int v1), (2, .int x16)]) [1, 2, 0] rfl ?_
        exact hk136 v1 x16 M h
      · have h := h.2 c
        refine g_iload_n X dMO_allFaults_167 rfl 1 rfl ?_
        refine g_if_ne X dMO_allFaults_168 (fun c => ?_) (fun c => ?_)
        · have h := h.1 c
          obtain ⟨x17, ex17⟩ : ∃ z : Int32, z = v2 + (1 : Int32) := ⟨_, rfl⟩
          have h := h x17 ex17
          refine g_iinc X (L' := [(2, .int x17), (0, .ref (base + 41)), (1, .int v1), (3, .int v3), (4, .int v4)]) (k := 2) dMO_allFaults_196 rfl (v := x17) (by rw [ex17]; rfl) (Nat.le_of_ble_eq_true rfl) rfl ?_
          refine g_goto X dMO_allFaults_199 ?_
          refine g_sub (L' := [(0, .ref (base + 41)), (1, .int v1), (2, .int x17)]) [1, 2, 0] rfl ?_
          exact hk136 v1 x17 M h
        · have h := h.2 c
          refine g_aload_n X dMO_allFaults_171 rfl 0 rfl ?_
          refine g_iload_n X dMO_allFaults_172 rfl 2 rfl ?_
          refine g_aload_n X dMO_allFaults_173 rfl 0 rfl ?_
          refine g_iconst X (v := (5 : Int32)) dMO_allFaults_174 (by decide) ?_
          refine g_iload_n X dMO_allFaults_175 rfl 2 rfl ?_
          refine g_iadd X dMO_allFaults_176 ?_
          refine g_callV X hK gTs_ok ly_41 rfl mw_MO_from tw_1303 mi_MO_from ms_MO_from (As := [.int ((5 : Int32) + v2)]) rfl ⟨(Nat.le_of_ble_eq_true rfl), (Nat.le_of_ble_eq_true rfl), Nat.le_refl _, Nat.le_refl _⟩ (m_MO_from h) (rest := [.int v2, .ref (base + 41)]) rfl (Nat.le_of_ble_eq_true rfl) dMO_allFaults_177 (gk_i (fun r18 M19 h => ?_))
          refine g_bipush X (v := (12 : Int32)) dMO_allFaults_180 (by decide) ?_
          refine g_iload X dMO_allFaults_182 4 rfl ?_
          refine g_imul X dMO_allFaults_184 ?_
          refine g_iadd X dMO_allFaults_185 ?_
          refine g_callV X hK gTs_ok ly_41 rfl mw_MO_relocationFault tw_1352 mi_MO_relocationFault ms_MO_relocationFault (As := [.int v2, .int (r18 + ((12 : Int32) * v4))]) rfl ⟨(Nat.le_of_ble_eq_true rfl), (Nat.le_of_ble_eq_true rfl), Nat.le_refl _, Nat.le_refl _⟩ (m_MO_relocationFault h) (rest := []) rfl (Nat.le_of_ble_eq_true rfl) dMO_allFaults_186 (gk_i (fun r20 M21 h => ?_))
          refine g_istore_n X (L' := [(1, .int r20), (0, .ref (base + 41)), (2, .int v2), (3, .int v3), (4, .int v4)]) dMO_allFaults_189 rfl (Nat.le_of_ble_eq_true rfl) rfl ?_
          obtain ⟨x22, ex22⟩ : ∃ z : Int32, z = v4 + (1 : Int32) := ⟨_, rfl⟩
          have h := h x22 ex22
          refine g_iinc X (L' := [(4, .int x22), (1, .int r20), (0, .ref (base + 41)), (2, .int v2), (3, .int v3)]) (k := 4) dMO_allFaults_190 rfl (v := x22) (by rw [ex22]; rfl) (Nat.le_of_ble_eq_true rfl) rfl ?_
          refine g_goto X dMO_allFaults_193 ?_
          refine g_sub (L' := [(0, .ref (base + 41)), (1, .int r20), (2, .int v2), (3, .int v3), (4, .int x22)]) [2, 1, 3, 4, 0] rfl ?_
          exact ih r20 v2 v3 x22 M21 h
  have r_136 : ∀ (n : Nat) (v1 : Int32) (v2 : Int32) (M : gMem), wl_MO_allFaults_136 post n v1 v2 M → GMx D ta base p l e 8 181 s m [.ref (base + 41)] below meth c (gPi post) 5 136 [(0, .ref (base + 41)), (1, .int v1), (2, .int v2)] [] M := by
    intro n
    induction n with
    | zero => exact fun _ _ M h => h.elim
    | succ n ih =>
      intro v1 v2 M h
      refine g_iload_n X dMO_allFaults_136 rfl 2 rfl ?_
      refine g_iconst X (v := (3 : Int32)) dMO_allFaults_137 (by decide) ?_
      refine g_icmp_ge X dMO_allFaults_138 (fun c => ?_) (fun c => ?_)
      · have h := h.1 c
        refine g_sub (L' := [(0, .ref (base + 41)), (1, .int v1)]) [0, 1] rfl ?_
        exact r_202 v1 M h
      · have h := h.2 c
        refine g_iload_n X dMO_allFaults_141 rfl 1 rfl ?_
        refine g_if_ne X dMO_allFaults_142 (fun c => ?_) (fun c => ?_)
        · have h := h.1 c
          refine g_sub (L' := [(0, .ref (base + 41)), (1, .int v1)]) [0, 1] rfl ?_
          exact r_202 v1 M h
        · have h := h.2 c
          refine g_aload_n X dMO_allFaults_145 rfl 0 rfl ?_
          refine g_iconst X (v := (5 : Int32)) dMO_allFaults_146 (by decide) ?_
          refine g_iload_n X dMO_allFaults_147 rfl 2 rfl ?_
          refine g_iadd X dMO_allFaults_148 ?_
          refine g_callV X hK gTs_ok ly_41 rfl mw_MO_bytesOf tw_1299 mi_MO_bytesOf ms_MO_bytesOf (As := [.int ((5 : Int32) + v2)]) rfl ⟨(Nat.le_of_ble_eq_true rfl), (Nat.le_of_ble_eq_true rfl), Nat.le_refl _, Nat.le_refl _⟩ (m_MO_bytesOf h) (rest := []) rfl (Nat.le_of_ble_eq_true rfl) dMO_allFaults_149 (gk_l (fun r13 M14 h => ?_))
          refine g_ldc2 X (v := (12 : Int64)) (tw_1293) dMO_allFaults_152 ?_
          refine g_ldiv X dMO_allFaults_155 (by decide) ?_
          refine g_l2i X dMO_allFaults_156 rfl ?_
          refine g_topi (fun x15 ex15 => ?_)
          have h := h x15 ex15
          refine g_istore_n X (L' := [(3, .int x15), (0, .ref (base + 41)), (1, .int v1), (2, .int v2)]) dMO_allFaults_157 rfl (Nat.le_of_ble_eq_true rfl) rfl ?_
          refine g_iconst X (v := (0 : Int32)) dMO_allFaults_158 (by decide) ?_
          refine g_istore X (L' := [(4, .int (0 : Int32)), (3, .int x15), (0, .ref (base + 41)), (1, .int v1), (2, .int v2)]) dMO_allFaults_159 (Nat.le_of_ble_eq_true rfl) rfl ?_
          refine g_sub (L' := [(0, .ref (base + 41)), (1, .int v1), (2, .int v2), (3, .int x15), (4, .int (0 : Int32))]) [2, 3, 4, 1, 0] rfl ?_
          obtain ⟨n9, h⟩ := h
          exact r_161 _ (ih) n9 v1 v2 x15 (0 : Int32) M14 h
  have r_121 : ∀ (v1 : Int32) (M : gMem), wj_MO_allFaults_121 post v1 M → GMx D ta base p l e 8 181 s m [.ref (base + 41)] below meth c (gPi post) 5 121 [(0, .ref (base + 41)), (1, .int v1)] [] M := by
    intro v1 M h
    unfold wj_MO_allFaults_121 at h
    refine g_iload_n X dMO_allFaults_121 rfl 1 rfl ?_
    refine g_if_eq X dMO_allFaults_122 (fun c => ?_) (fun c => ?_)
    · have h := h.1 c
      refine g_aload_n X dMO_allFaults_129 rfl 0 rfl ?_
      refine g_callV X hK gTs_ok ly_41 rfl mw_MO_infoFault tw_1348 mi_MO_infoFault ms_MO_infoFault (As := []) rfl ⟨(Nat.le_of_ble_eq_true rfl), (Nat.le_of_ble_eq_true rfl), Nat.le_refl _, Nat.le_refl _⟩ (m_MO_infoFault h) (rest := []) rfl (Nat.le_of_ble_eq_true rfl) dMO_allFaults_130 (gk_i (fun r9 M10 h => ?_))
      refine g_istore_n X (L' := [(1, .int r9), (0, .ref (base + 41))]) dMO_allFaults_133 rfl (Nat.le_of_ble_eq_true rfl) rfl ?_
      refine g_iconst X (v := (0 : Int32)) dMO_allFaults_134 (by decide) ?_
      refine g_istore_n X (L' := [(2, .int (0 : Int32)), (1, .int r9), (0, .ref (base + 41))]) dMO_allFaults_135 rfl (Nat.le_of_ble_eq_true rfl) rfl ?_
      refine g_sub (L' := [(0, .ref (base + 41)), (1, .int r9), (2, .int (0 : Int32))]) [2, 1, 0] rfl ?_
      obtain ⟨n9, h⟩ := h
      exact r_136 n9 r9 (0 : Int32) M10 h
    · have h := h.2 c
      refine g_iload_n X dMO_allFaults_125 rfl 1 rfl ?_
      refine g_goto X dMO_allFaults_126 ?_
      refine g_istore_n X (L' := [(1, .int v1), (0, .ref (base + 41))]) dMO_allFaults_133 rfl (Nat.le_of_ble_eq_true rfl) rfl ?_
      refine g_iconst X (v := (0 : Int32)) dMO_allFaults_134 (by decide) ?_
      refine g_istore_n X (L' := [(2, .int (0 : Int32)), (1, .int v1), (0, .ref (base + 41))]) dMO_allFaults_135 rfl (Nat.le_of_ble_eq_true rfl) rfl ?_
      refine g_sub (L' := [(0, .ref (base + 41)), (1, .int v1), (2, .int (0 : Int32))]) [2, 1, 0] rfl ?_
      obtain ⟨n9, h⟩ := h
      exact r_136 n9 v1 (0 : Int32) M h
  have r_97 : ∀ (n : Nat) (v1 : Int32) (v2 : Int32) (M : gMem), wl_MO_allFaults_97 post n v1 v2 M → GMx D ta base p l e 8 181 s m [.ref (base + 41)] below meth c (gPi post) 5 97 [(0, .ref (base + 41)), (1, .int v1), (2, .int v2)] [] M := by
    intro n
    induction n with
    | zero => exact fun _ _ M h => h.elim
    | succ n ih =>
      intro v1 v2 M h
      refine g_iload_n X dMO_allFaults_97 rfl 2 rfl ?_
      refine g_aload_n X dMO_allFaults_98 rfl 0 rfl ?_
      refine g_callV X hK gTs_ok ly_41 rfl mw_MO_symbolsIn tw_1307 mi_MO_symbolsIn ms_MO_symbolsIn (As := []) rfl ⟨(Nat.le_of_ble_eq_true rfl), (Nat.le_of_ble_eq_true rfl), Nat.le_refl _, Nat.le_refl _⟩ (m_MO_symbolsIn h) (rest := [.int v2]) rfl (Nat.le_of_ble_eq_true rfl) dMO_allFaults_99 (gk_i (fun r7 M8 h => ?_))
      refine g_icmp_ge X dMO_allFaults_102 (fun c => ?_) (fun c => ?_)
      · have h := h.1 c
        refine g_sub (L' := [(0, .ref (base + 41)), (1, .int v1)]) [0, 1] rfl ?_
        exact r_121 v1 M8 h
      · have h := h.2 c
        refine g_iload_n X dMO_allFaults_105 rfl 1 rfl ?_
        refine g_if_ne X dMO_allFaults_106 (fun c => ?_) (fun c => ?_)
        · have h := h.1 c
          refine g_sub (L' := [(0, .ref (base + 41)), (1, .int v1)]) [0, 1] rfl ?_
          exact r_121 v1 M8 h
        · have h := h.2 c
          refine g_aload_n X dMO_allFaults_109 rfl 0 rfl ?_
          refine g_iload_n X dMO_allFaults_110 rfl 2 rfl ?_
          refine g_callV X hK gTs_ok ly_41 rfl mw_MO_symbolFault tw_1311 mi_MO_symbolFault ms_MO_symbolFault (As := [.int v2]) rfl ⟨(Nat.le_of_ble_eq_true rfl), (Nat.le_of_ble_eq_true rfl), Nat.le_refl _, Nat.le_refl _⟩ (m_MO_symbolFault h) (rest := []) rfl (Nat.le_of_ble_eq_true rfl) dMO_allFaults_111 (gk_i (fun r23 M24 h => ?_))
          refine g_istore_n X (L' := [(1, .int r23), (0, .ref (base + 41)), (2, .int v2)]) dMO_allFaults_114 rfl (Nat.le_of_ble_eq_true rfl) rfl ?_
          obtain ⟨x25, ex25⟩ : ∃ z : Int32, z = v2 + (1 : Int32) := ⟨_, rfl⟩
          have h := h x25 ex25
          refine g_iinc X (L' := [(2, .int x25), (1, .int r23), (0, .ref (base + 41))]) (k := 2) dMO_allFaults_115 rfl (v := x25) (by rw [ex25]; rfl) (Nat.le_of_ble_eq_true rfl) rfl ?_
          refine g_goto X dMO_allFaults_118 ?_
          refine g_sub (L' := [(0, .ref (base + 41)), (1, .int r23), (2, .int x25)]) [2, 1, 0] rfl ?_
          exact ih r23 x25 M24 h
  have r_88 : ∀ (s0 : Int32) (M : gMem), wj_MO_allFaults_88 post s0 M → GMx D ta base p l e 8 181 s m [.ref (base + 41)] below meth c (gPi post) 5 88 [(0, .ref (base + 41))] [.int s0] M := by
    intro s0 M h
    unfold wj_MO_allFaults_88 at h
    refine g_istore_n X (L' := [(1, .int s0), (0, .ref (base + 41))]) dMO_allFaults_88 rfl (Nat.le_of_ble_eq_true rfl) rfl ?_
    refine g_iload_n X dMO_allFaults_89 rfl 0 rfl ?_
    refine g_if_eq X dMO_allFaults_90 (fun c => ?_) (fun c => ?_)
    · have h := h.1 c
      refine g_iconst X (v := (0 : Int32)) dMO_allFaults_95 (by decide) ?_
      refine g_istore_n X (L' := [(2, .int (0 : Int32)), (1, .int s0), (0, .ref (base + 41))]) dMO_allFaults_96 rfl (Nat.le_of_ble_eq_true rfl) rfl ?_
      refine g_sub (L' := [(0, .ref (base + 41)), (1, .int s0), (2, .int (0 : Int32))]) [2, 1, 0] rfl ?_
      obtain ⟨n9, h⟩ := h
      exact r_97 n9 s0 (0 : Int32) M h
    · have h := h.2 c
      refine g_iload_n X dMO_allFaults_93 rfl 0 rfl ?_
      exact g_iret X hr hlk dMO_allFaults_94 ⟨_, rfl, h⟩
  have r_76 : ∀ (v1 : Int32) (M : gMem), wj_MO_allFaults_76 post v1 M → GMx D ta base p l e 8 181 s m [.ref (base + 41)] below meth c (gPi post) 5 76 [(0, .ref (base + 41)), (1, .int v1)] [] M := by
    intro v1 M h
    unfold wj_MO_allFaults_76 at h
    refine g_iload_n X dMO_allFaults_76 rfl 1 rfl ?_
    refine g_if_eq X dMO_allFaults_77 (fun c => ?_) (fun c => ?_)
    · have h := h.1 c
      refine g_aload_n X dMO_allFaults_84 rfl 0 rfl ?_
      refine g_callV X hK gTs_ok ly_41 rfl mw_MO_sizeFaults tw_1289 mi_MO_sizeFaults ms_MO_sizeFaults (As := []) rfl ⟨(Nat.le_of_ble_eq_true rfl), (Nat.le_of_ble_eq_true rfl), Nat.le_refl _, Nat.le_refl _⟩ (m_MO_sizeFaults h) (rest := []) rfl (Nat.le_of_ble_eq_true rfl) dMO_allFaults_85 (gk_i (fun r5 M6 h => ?_))
      refine g_sub (L' := [(0, .ref (base + 41))]) [0] rfl ?_
      exact r_88 r5 M6 h
    · have h := h.2 c
      refine g_iload_n X dMO_allFaults_80 rfl 1 rfl ?_
      refine g_goto X dMO_allFaults_81 ?_
      refine g_sub (L' := [(0, .ref (base + 41))]) [0] rfl ?_
      exact r_88 v1 M h
  have r_52 : ∀ (n : Nat) (v1 : Int32) (v2 : Int32) (M : gMem), wl_MO_allFaults_52 post n v1 v2 M → GMx D ta base p l e 8 181 s m [.ref (base + 41)] below meth c (gPi post) 5 52 [(0, .ref (base + 41)), (1, .int v1), (2, .int v2)] [] M := by
    intro n
    induction n with
    | zero => exact fun _ _ M h => h.elim
    | succ n ih =>
      intro v1 v2 M h
      refine g_iload_n X dMO_allFaults_52 rfl 2 rfl ?_
      refine g_aload_n X dMO_allFaults_53 rfl 0 rfl ?_
      refine g_geti X hK.1 fw_MO_195 ly_41 rfl dMO_allFaults_54 ?_
      refine g_icmp_ge X dMO_allFaults_57 (fun c => ?_) (fun c => ?_)
      · have h := h.1 c
        refine g_sub (L' := [(0, .ref (base + 41)), (1, .int v1)]) [0, 1] rfl ?_
        exact r_76 v1 M h
      · have h := h.2 c
        refine g_iload_n X dMO_allFaults_60 rfl 1 rfl ?_
        refine g_if_ne X dMO_allFaults_61 (fun c => ?_) (fun c => ?_)
        · have h := h.1 c
          refine g_sub (L' := [(0, .ref (base + 41)), (1, .int v1)]) [0, 1] rfl ?_
          exact r_76 v1 M h
        · have h := h.2 c
          refine g_aload_n X dMO_allFaults_64 rfl 0 rfl ?_
          refine g_iload_n X dMO_allFaults_65 rfl 2 rfl ?_
          refine g_callV X hK gTs_ok ly_41 rfl mw_MO_ruleFault tw_1285 mi_MO_ruleFault ms_MO_ruleFault (As := [.int v2]) rfl ⟨(Nat.le_of_ble_eq_true rfl), (Nat.le_of_ble_eq_true rfl), Nat.le_refl _, Nat.le_refl _⟩ (m_MO_ruleFault h) (rest := []) rfl (Nat.le_of_ble_eq_true rfl) dMO_allFaults_66 (gk_i (fun r26 M27 h => ?_))
          refine g_istore_n X (L' := [(1, .int r26), (0, .ref (base + 41)), (2, .int v2)]) dMO_allFaults_69 rfl (Nat.le_of_ble_eq_true rfl) rfl ?_
          obtain ⟨x28, ex28⟩ : ∃ z : Int32, z = v2 + (1 : Int32) := ⟨_, rfl⟩
          have h := h x28 ex28
          refine g_iinc X (L' := [(2, .int x28), (1, .int r26), (0, .ref (base + 41))]) (k := 2) dMO_allFaults_70 rfl (v := x28) (by rw [ex28]; rfl) (Nat.le_of_ble_eq_true rfl) rfl ?_
          refine g_goto X dMO_allFaults_73 ?_
          refine g_sub (L' := [(0, .ref (base + 41)), (1, .int r26), (2, .int x28)]) [2, 1, 0] rfl ?_
          exact ih r26 x28 M27 h
  have r_37 : ∀ (v1 : Int32) (M : gMem), wj_MO_allFaults_37 post v1 M → GMx D ta base p l e 8 181 s m [.ref (base + 41)] below meth c (gPi post) 5 37 [(0, .ref (base + 41)), (1, .int v1)] [] M := by
    intro v1 M h
    unfold wj_MO_allFaults_37 at h
    refine g_iload_n X dMO_allFaults_37 rfl 1 rfl ?_
    refine g_if_eq X dMO_allFaults_38 (fun c => ?_) (fun c => ?_)
    · have h := h.1 c
      refine g_aload_n X dMO_allFaults_45 rfl 0 rfl ?_
      refine g_callV X hK gTs_ok ly_41 rfl mw_MO_nameFaults tw_1276 mi_MO_nameFaults ms_MO_nameFaults (As := []) rfl ⟨(Nat.le_of_ble_eq_true rfl), (Nat.le_of_ble_eq_true rfl), Nat.le_refl _, Nat.le_refl _⟩ (m_MO_nameFaults h) (rest := []) rfl (Nat.le_of_ble_eq_true rfl) dMO_allFaults_46 (gk_i (fun r3 M4 h => ?_))
      refine g_istore_n X (L' := [(1, .int r3), (0, .ref (base + 41))]) dMO_allFaults_49 rfl (Nat.le_of_ble_eq_true rfl) rfl ?_
      refine g_iconst X (v := (1 : Int32)) dMO_allFaults_50 (by decide) ?_
      refine g_istore_n X (L' := [(2, .int (1 : Int32)), (1, .int r3), (0, .ref (base + 41))]) dMO_allFaults_51 rfl (Nat.le_of_ble_eq_true rfl) rfl ?_
      refine g_sub (L' := [(0, .ref (base + 41)), (1, .int r3), (2, .int (1 : Int32))]) [2, 1, 0] rfl ?_
      obtain ⟨n9, h⟩ := h
      exact r_52 n9 r3 (1 : Int32) M4 h
    · have h := h.2 c
      refine g_iload_n X dMO_allFaults_41 rfl 1 rfl ?_
      refine g_goto X dMO_allFaults_42 ?_
      refine g_istore_n X (L' := [(1, .int v1), (0, .ref (base + 41))]) dMO_allFaults_49 rfl (Nat.le_of_ble_eq_true rfl) rfl ?_
      refine g_iconst X (v := (1 : Int32)) dMO_allFaults_50 (by decide) ?_
      refine g_istore_n X (L' := [(2, .int (1 : Int32)), (1, .int v1), (0, .ref (base + 41))]) dMO_allFaults_51 rfl (Nat.le_of_ble_eq_true rfl) rfl ?_
      refine g_sub (L' := [(0, .ref (base + 41)), (1, .int v1), (2, .int (1 : Int32))]) [2, 1, 0] rfl ?_
      obtain ⟨n9, h⟩ := h
      exact r_52 n9 v1 (1 : Int32) M h
  have r_13 : ∀ (n : Nat) (v1 : Int32) (v2 : Int32) (M : gMem), wl_MO_allFaults_13 post n v1 v2 M → GMx D ta base p l e 8 181 s m [.ref (base + 41)] below meth c (gPi post) 5 13 [(0, .ref (base + 41)), (1, .int v1), (2, .int v2)] [] M := by
    intro n
    induction n with
    | zero => exact fun _ _ M h => h.elim
    | succ n ih =>
      intro v1 v2 M h
      refine g_iload_n X dMO_allFaults_13 rfl 2 rfl ?_
      refine g_aload_n X dMO_allFaults_14 rfl 0 rfl ?_
      refine g_geti X hK.1 fw_MO_195 ly_41 rfl dMO_allFaults_15 ?_
      refine g_icmp_ge X dMO_allFaults_18 (fun c => ?_) (fun c => ?_)
      · have h := h.1 c
        refine g_sub (L' := [(0, .ref (base + 41)), (1, .int v1)]) [0, 1] rfl ?_
        exact r_37 v1 M h
      · have h := h.2 c
        refine g_iload_n X dMO_allFaults_21 rfl 1 rfl ?_
        refine g_if_ne X dMO_allFaults_22 (fun c => ?_) (fun c => ?_)
        · have h := h.1 c
          refine g_sub (L' := [(0, .ref (base + 41)), (1, .int v1)]) [0, 1] rfl ?_
          exact r_37 v1 M h
        · have h := h.2 c
          refine g_aload_n X dMO_allFaults_25 rfl 0 rfl ?_
          refine g_iload_n X dMO_allFaults_26 rfl 2 rfl ?_
          refine g_callV X hK gTs_ok ly_41 rfl mw_MO_entryFault tw_1259 mi_MO_entryFault ms_MO_entryFault (As := [.int v2]) rfl ⟨(Nat.le_of_ble_eq_true rfl), (Nat.le_of_ble_eq_true rfl), Nat.le_refl _, Nat.le_refl _⟩ (m_MO_entryFault h) (rest := []) rfl (Nat.le_of_ble_eq_true rfl) dMO_allFaults_27 (gk_i (fun r29 M30 h => ?_))
          refine g_istore_n X (L' := [(1, .int r29), (0, .ref (base + 41)), (2, .int v2)]) dMO_allFaults_30 rfl (Nat.le_of_ble_eq_true rfl) rfl ?_
          obtain ⟨x31, ex31⟩ : ∃ z : Int32, z = v2 + (1 : Int32) := ⟨_, rfl⟩
          have h := h x31 ex31
          refine g_iinc X (L' := [(2, .int x31), (1, .int r29), (0, .ref (base + 41))]) (k := 2) dMO_allFaults_31 rfl (v := x31) (by rw [ex31]; rfl) (Nat.le_of_ble_eq_true rfl) rfl ?_
          refine g_goto X dMO_allFaults_34 ?_
          refine g_sub (L' := [(0, .ref (base + 41)), (1, .int r29), (2, .int x31)]) [2, 1, 0] rfl ?_
          exact ih r29 x31 M30 h
  refine g_args (L' := [(0, .ref (base + 41))]) rfl ?_
  unfold wp_MO_allFaults at h
  refine g_aload_n X dMO_allFaults_0 rfl 0 rfl ?_
  refine g_callV X hK gTs_ok ly_41 rfl mw_MO_head tw_1239 mi_MO_head ms_MO_head (As := []) rfl ⟨(Nat.le_of_ble_eq_true rfl), (Nat.le_of_ble_eq_true rfl), Nat.le_refl _, Nat.le_refl _⟩ (m_MO_head h) (rest := []) rfl (Nat.le_of_ble_eq_true rfl) dMO_allFaults_1 (gk_i (fun r1 M2 h => ?_))
  refine g_istore_n X (L' := [(1, .int r1), (0, .ref (base + 41))]) dMO_allFaults_4 rfl (Nat.le_of_ble_eq_true rfl) rfl ?_
  refine g_iload_n X dMO_allFaults_5 rfl 0 rfl ?_
  refine g_if_eq X dMO_allFaults_6 (fun c => ?_) (fun c => ?_)
  · have h := h.1 c
    refine g_iconst X (v := (0 : Int32)) dMO_allFaults_11 (by decide) ?_
    refine g_istore_n X (L' := [(2, .int (0 : Int32)), (1, .int r1), (0, .ref (base + 41))]) dMO_allFaults_12 rfl (Nat.le_of_ble_eq_true rfl) rfl ?_
    refine g_sub (L' := [(0, .ref (base + 41)), (1, .int r1), (2, .int (0 : Int32))]) [2, 1, 0] rfl ?_
    obtain ⟨n9, h⟩ := h
    exact r_13 n9 r1 (0 : Int32) M2 h
  · have h := h.2 c
    refine g_iload_n X dMO_allFaults_9 rfl 0 rfl ?_
    exact g_iret X hr hlk dMO_allFaults_10 ⟨_, rfl, h⟩
set_option maxRecDepth 100000 in
set_option maxHeartbeats 4000000 in
theorem m_MO_takeRelocation {l : Launch} {D : va_G} {ta : Nat → ClassId} {base : Nat} {sa : Nat → Nat} {post : gMem → Prop} {a0 : Int32} {a1 : Int32} {M : gMem} (h : wp_MO_takeRelocation post a0 a1 M) : GC gLay gCl D ta base gNw sa gTabs gTs l y_MO_takeRelocation b_MO_takeRelocation 4 none 2 42 [.ref (base + 41), .int a0, .int a1] M (gPv post) := by
  refine GC.of (own := "ObjectFileModel") pn_MO rfl (Nat.le_of_ble_eq_true rfl) ?_
  intro p e s m below meth c X hK hr hlk
  refine g_args (L' := [(0, .ref (base + 41)), (1, .int a0), (2, .int a1)]) rfl ?_
  unfold wp_MO_takeRelocation at h
  refine g_sipush X (v := (300 : Int32)) dMO_takeRelocation_0 (by decide) ?_
  refine g_aload_n X dMO_takeRelocation_3 rfl 0 rfl ?_
  refine g_getr X hK.1 fw_MO_64 ly_41 rfl dMO_takeRelocation_4 ?_
  refine g_iconst X (v := (1 : Int32)) dMO_takeRelocation_7 (by decide) ?_
  obtain ⟨hi, h⟩ := h
  refine g_iald X hK.1 ly_60 hi dMO_takeRelocation_8 ?_
  refine g_iadd X dMO_takeRelocation_9 ?_
  refine g_topi (fun x1 ex1 => ?_)
  have h := h x1 ex1
  refine g_istore_n X (L' := [(3, .int x1), (0, .ref (base + 41)), (1, .int a0), (2, .int a1)]) dMO_takeRelocation_10 rfl (Nat.le_of_ble_eq_true rfl) rfl ?_
  refine g_aload_n X dMO_takeRelocation_11 rfl 1 rfl ?_
  refine g_getr X hK.1 fw_MO_49 ly_41 rfl dMO_takeRelocation_12 ?_
  refine g_iload_n X dMO_takeRelocation_15 rfl 0 rfl ?_
  refine g_iload_n X dMO_takeRelocation_16 rfl 2 rfl ?_
  obtain ⟨hi, h⟩ := h
  refine g_iast X hK.1 ly_55 hi dMO_takeRelocation_17 ?_
  refine g_topM (fun M2 eM2 => ?_)
  have h := h M2 eM2
  refine g_aload_n X dMO_takeRelocation_18 rfl 1 rfl ?_
  refine g_getr X hK.1 fw_MO_52 ly_41 rfl dMO_takeRelocation_19 ?_
  refine g_iload_n X dMO_takeRelocation_22 rfl 0 rfl ?_
  refine g_aload_n X dMO_takeRelocation_23 rfl 1 rfl ?_
  refine g_iload_n X dMO_takeRelocation_24 rfl 3 rfl ?_
  refine g_callV X hK gTs_ok ly_41 rfl mw_MO_read4 tw_1251 mi_MO_read4 ms_MO_read4 (As := [.int a1]) rfl ⟨(Nat.le_of_ble_eq_true rfl), (Nat.le_of_ble_eq_true rfl), Nat.le_refl _, Nat.le_refl _⟩ (m_MO_read4 h) (rest := [.int x1, .ref (base + 56)]) rfl (Nat.le_of_ble_eq_true rfl) dMO_takeRelocation_25 (gk_l (fun r3 M4 h => ?_))
  refine g_l2i X dMO_takeRelocation_28 rfl ?_
  obtain ⟨hi, h⟩ := h
  refine g_iast X hK.1 ly_56 hi dMO_takeRelocation_29 ?_
  refine g_topM (fun M5 eM5 => ?_)
  have h := h M5 eM5
  refine g_aload_n X dMO_takeRelocation_30 rfl 1 rfl ?_
  refine g_getr X hK.1 fw_MO_55 ly_41 rfl dMO_takeRelocation_31 ?_
  refine g_iload_n X dMO_takeRelocation_34 rfl 0 rfl ?_
  refine g_aload_n X dMO_takeRelocation_35 rfl 1 rfl ?_
  refine g_getr X hK.1 fw_MO_70 ly_41 rfl dMO_takeRelocation_36 ?_
  refine g_iload_n X dMO_takeRelocation_39 rfl 3 rfl ?_
  refine g_iconst X (v := (4 : Int32)) dMO_takeRelocation_40 (by decide) ?_
  refine g_iadd X dMO_takeRelocation_41 ?_
  obtain ⟨hi, h⟩ := h
  refine g_iald X hK.1 ly_62 hi dMO_takeRelocation_42 ?_
  obtain ⟨hi, h⟩ := h
  refine g_iast X hK.1 ly_57 hi dMO_takeRelocation_43 ?_
  refine g_topM (fun M6 eM6 => ?_)
  have h := h M6 eM6
  refine g_aload_n X dMO_takeRelocation_44 rfl 1 rfl ?_
  refine g_getr X hK.1 fw_MO_58 ly_41 rfl dMO_takeRelocation_45 ?_
  refine g_iload_n X dMO_takeRelocation_48 rfl 0 rfl ?_
  refine g_aload_n X dMO_takeRelocation_49 rfl 1 rfl ?_
  refine g_iload_n X dMO_takeRelocation_50 rfl 3 rfl ?_
  refine g_iconst X (v := (4 : Int32)) dMO_takeRelocation_51 (by decide) ?_
  refine g_iadd X dMO_takeRelocation_52 ?_
  refine g_callV X hK gTs_ok ly_41 rfl mw_MO_read4 tw_1251 mi_MO_read4 ms_MO_read4 (As := [.int (a1 + (4 : Int32))]) rfl ⟨(Nat.le_of_ble_eq_true rfl), (Nat.le_of_ble_eq_true rfl), Nat.le_refl _, Nat.le_refl _⟩ (m_MO_read4 h) (rest := [.int x1, .ref (base + 58)]) rfl (Nat.le_of_ble_eq_true rfl) dMO_takeRelocation_53 (gk_l (fun r7 M8 h => ?_))
  refine g_ldc2 X (v := (256 : Int64)) (tw_1356) dMO_takeRelocation_56 ?_
  refine g_ldiv X dMO_takeRelocation_59 (by decide) ?_
  refine g_l2i X dMO_takeRelocation_60 rfl ?_
  refine g_iconst X (v := (1 : Int32)) dMO_takeRelocation_61 (by decide) ?_
  refine g_isub X dMO_takeRelocation_62 ?_
  obtain ⟨hi, h⟩ := h
  refine g_iast X hK.1 ly_58 hi dMO_takeRelocation_63 ?_
  refine g_topM (fun M9 eM9 => ?_)
  have h := h M9 eM9
  refine g_aload_n X dMO_takeRelocation_64 rfl 1 rfl ?_
  refine g_getr X hK.1 fw_MO_61 ly_41 rfl dMO_takeRelocation_65 ?_
  refine g_iload_n X dMO_takeRelocation_68 rfl 0 rfl ?_
  refine g_aload_n X dMO_takeRelocation_69 rfl 1 rfl ?_
  refine g_iload_n X dMO_takeRelocation_70 rfl 3 rfl ?_
  refine g_bipush X (v := (8 : Int32)) dMO_takeRelocation_71 (by decide) ?_
  refine g_iadd X dMO_takeRelocation_73 ?_
  refine g_callV X hK gTs_ok ly_41 rfl mw_MO_read4 tw_1251 mi_MO_read4 ms_MO_read4 (As := [.int (a1 + (8 : Int32))]) rfl ⟨(Nat.le_of_ble_eq_true rfl), (Nat.le_of_ble_eq_true rfl), Nat.le_refl _, Nat.le_refl _⟩ (m_MO_read4 h) (rest := [.int x1, .ref (base + 59)]) rfl (Nat.le_of_ble_eq_true rfl) dMO_takeRelocation_74 (gk_l (fun r10 M11 h => ?_))
  refine g_l2i X dMO_takeRelocation_77 rfl ?_
  obtain ⟨hi, h⟩ := h
  refine g_iast X hK.1 ly_59 hi dMO_takeRelocation_78 ?_
  refine g_topM (fun M12 eM12 => ?_)
  have h := h M12 eM12
  refine g_aload_n X dMO_takeRelocation_79 rfl 1 rfl ?_
  refine g_getr X hK.1 fw_MO_64 ly_41 rfl dMO_takeRelocation_80 ?_
  refine g_iconst X (v := (1 : Int32)) dMO_takeRelocation_83 (by decide) ?_
  refine g_dup2_11 X dMO_takeRelocation_84 rfl rfl ?_
  obtain ⟨hi, h⟩ := h
  refine g_iald X hK.1 ly_60 hi dMO_takeRelocation_85 ?_
  refine g_iconst X (v := (1 : Int32)) dMO_takeRelocation_86 (by decide) ?_
  refine g_iadd X dMO_takeRelocation_87 ?_
  obtain ⟨hi, h⟩ := h
  refine g_iast X hK.1 ly_60 hi dMO_takeRelocation_88 ?_
  refine g_topM (fun M13 eM13 => ?_)
  have h := h M13 eM13
  exact g_vret X hr hlk dMO_takeRelocation_89 ⟨rfl, h⟩
set_option maxRecDepth 100000 in
set_option maxHeartbeats 4000000 in
theorem m_MO_takeSymbol {l : Launch} {D : va_G} {ta : Nat → ClassId} {base : Nat} {sa : Nat → Nat} {post : gMem → Prop} {a0 : Int32} {a1 : Int32} {M : gMem} (h : wp_MO_takeSymbol post a0 a1 M) : GC gLay gCl D ta base gNw sa gTabs gTs l y_MO_takeSymbol b_MO_takeSymbol 5 none 6 129 [.ref (base + 41), .int a0, .int a1] M (gPv post) := by
  refine GC.of (own := "ObjectFileModel") pn_MO rfl (Nat.le_of_ble_eq_true rfl) ?_
  intro p e s m below meth c X hK hr hlk
  have r_24 : ∀ (n : Nat) (v1 : Int32) (v2 : Int32) (v3 : Int32) (v4 : Int32) (M : gMem), wl_MO_takeSymbol_24 post n v1 v2 v3 v4 M → GMx D ta base p l e 6 129 s m [.ref (base + 41), .int a0, .int a1] below meth c (gPv post) 5 24 [(0, .ref (base + 41)), (1, .int v1), (2, .int v2), (3, .int v3), (4, .int v4)] [] M := by
    intro n
    induction n with
    | zero => exact fun _ _ _ _ M h => h.elim
    | succ n ih =>
      intro v1 v2 v3 v4 M h
      refine g_iload X dMO_takeSymbol_24 4 rfl ?_
      refine g_aload_n X dMO_takeSymbol_26 rfl 0 rfl ?_
      refine g_getr X hK.1 fw_MO_40 ly_41 rfl dMO_takeSymbol_27 ?_
      refine g_iload_n X dMO_takeSymbol_30 rfl 1 rfl ?_
      obtain ⟨hi, h⟩ := h
      refine g_iald X hK.1 ly_52 hi dMO_takeSymbol_31 ?_
      refine g_icmp_ge X dMO_takeSymbol_32 (fun c => ?_) (fun c => ?_)
      · have h := h.1 c
        refine g_aload_n X dMO_takeSymbol_66 rfl 0 rfl ?_
        refine g_getr X hK.1 fw_MO_25 ly_41 rfl dMO_takeSymbol_67 ?_
        refine g_iload_n X dMO_takeSymbol_70 rfl 1 rfl ?_
        refine g_aload_n X dMO_takeSymbol_71 rfl 0 rfl ?_
        refine g_iload_n X dMO_takeSymbol_72 rfl 2 rfl ?_
        refine g_callV X hK gTs_ok ly_41 rfl mw_MO_whereOf tw_1335 mi_MO_whereOf ms_MO_whereOf (As := [.int v2]) rfl ⟨(Nat.le_of_ble_eq_true rfl), (Nat.le_of_ble_eq_true rfl), Nat.le_refl _, Nat.le_refl _⟩ (m_MO_whereOf h) (rest := [.int v1, .ref (base + 47)]) rfl (Nat.le_of_ble_eq_true rfl) dMO_takeSymbol_73 (gk_i (fun r8 M9 h => ?_))
        obtain ⟨hi, h⟩ := h
        refine g_iast X hK.1 ly_47 hi dMO_takeSymbol_76 ?_
        refine g_topM (fun M10 eM10 => ?_)
        have h := h M10 eM10
        refine g_aload_n X dMO_takeSymbol_77 rfl 0 rfl ?_
        refine g_getr X hK.1 fw_MO_28 ly_41 rfl dMO_takeSymbol_78 ?_
        refine g_iload_n X dMO_takeSymbol_81 rfl 1 rfl ?_
        refine g_aload_n X dMO_takeSymbol_82 rfl 0 rfl ?_
        refine g_iload_n X dMO_takeSymbol_83 rfl 3 rfl ?_
        refine g_iconst X (v := (4 : Int32)) dMO_takeSymbol_84 (by decide) ?_
        refine g_iadd X dMO_takeSymbol_85 ?_
        refine g_callV X hK gTs_ok ly_41 rfl mw_MO_read4 tw_1251 mi_MO_read4 ms_MO_read4 (As := [.int (v3 + (4 : Int32))]) rfl ⟨(Nat.le_of_ble_eq_true rfl), (Nat.le_of_ble_eq_true rfl), Nat.le_refl _, Nat.le_refl _⟩ (m_MO_read4 h) (rest := [.int v1, .ref (base + 48)]) rfl (Nat.le_of_ble_eq_true rfl) dMO_takeSymbol_86 (gk_l (fun r11 M12 h => ?_))
        refine g_l2i X dMO_takeSymbol_89 rfl ?_
        obtain ⟨hi, h⟩ := h
        refine g_iast X hK.1 ly_48 hi dMO_takeSymbol_90 ?_
        refine g_topM (fun M13 eM13 => ?_)
        have h := h M13 eM13
        refine g_aload_n X dMO_takeSymbol_91 rfl 0 rfl ?_
        refine g_getr X hK.1 fw_MO_31 ly_41 rfl dMO_takeSymbol_92 ?_
        refine g_iload_n X dMO_takeSymbol_95 rfl 1 rfl ?_
        refine g_aload_n X dMO_takeSymbol_96 rfl 0 rfl ?_
        refine g_iload_n X dMO_takeSymbol_97 rfl 3 rfl ?_
        refine g_bipush X (v := (8 : Int32)) dMO_takeSymbol_98 (by decide) ?_
        refine g_iadd X dMO_takeSymbol_100 ?_
        refine g_callV X hK gTs_ok ly_41 rfl mw_MO_read4 tw_1251 mi_MO_read4 ms_MO_read4 (As := [.int (v3 + (8 : Int32))]) rfl ⟨(Nat.le_of_ble_eq_true rfl), (Nat.le_of_ble_eq_true rfl), Nat.le_refl _, Nat.le_refl _⟩ (m_MO_read4 h) (rest := [.int v1, .ref (base + 49)]) rfl (Nat.le_of_ble_eq_true rfl) dMO_takeSymbol_101 (gk_l (fun r14 M15 h => ?_))
        refine g_l2i X dMO_takeSymbol_104 rfl ?_
        obtain ⟨hi, h⟩ := h
        refine g_iast X hK.1 ly_49 hi dMO_takeSymbol_105 ?_
        refine g_topM (fun M16 eM16 => ?_)
        have h := h M16 eM16
        refine g_aload_n X dMO_takeSymbol_106 rfl 0 rfl ?_
        refine g_getr X hK.1 fw_MO_34 ly_41 rfl dMO_takeSymbol_107 ?_
        refine g_iload_n X dMO_takeSymbol_110 rfl 1 rfl ?_
        refine g_aload_n X dMO_takeSymbol_111 rfl 0 rfl ?_
        refine g_iload_n X dMO_takeSymbol_112 rfl 2 rfl ?_
        refine g_callV X hK gTs_ok ly_41 rfl mw_MO_bindOf tw_1331 mi_MO_bindOf ms_MO_bindOf (As := [.int v2]) rfl ⟨(Nat.le_of_ble_eq_true rfl), (Nat.le_of_ble_eq_true rfl), Nat.le_refl _, Nat.le_refl _⟩ (m_MO_bindOf h) (rest := [.int v1, .ref (base + 50)]) rfl (Nat.le_of_ble_eq_true rfl) dMO_takeSymbol_113 (gk_i (fun r17 M18 h => ?_))
        obtain ⟨hi, h⟩ := h
        refine g_iast X hK.1 ly_50 hi dMO_takeSymbol_116 ?_
        refine g_topM (fun M19 eM19 => ?_)
        have h := h M19 eM19
        refine g_aload_n X dMO_takeSymbol_117 rfl 0 rfl ?_
        refine g_getr X hK.1 fw_MO_37 ly_41 rfl dMO_takeSymbol_118 ?_
        refine g_iload_n X dMO_takeSymbol_121 rfl 1 rfl ?_
        refine g_aload_n X dMO_takeSymbol_122 rfl 0 rfl ?_
        refine g_getr X hK.1 fw_MO_70 ly_41 rfl dMO_takeSymbol_123 ?_
        refine g_iload_n X dMO_takeSymbol_126 rfl 3 rfl ?_
        refine g_bipush X (v := (12 : Int32)) dMO_takeSymbol_127 (by decide) ?_
        refine g_iadd X dMO_takeSymbol_129 ?_
        obtain ⟨hi, h⟩ := h
        refine g_iald X hK.1 ly_62 hi dMO_takeSymbol_130 ?_
        refine g_bipush X (v := (15 : Int32)) dMO_takeSymbol_131 (by decide) ?_
        refine g_iand X dMO_takeSymbol_133 ?_
        obtain ⟨hi, h⟩ := h
        refine g_iast X hK.1 ly_51 hi dMO_takeSymbol_134 ?_
        refine g_topM (fun M20 eM20 => ?_)
        have h := h M20 eM20
        exact g_vret X hr hlk dMO_takeSymbol_135 ⟨rfl, h⟩
      · have h := h.2 c
        refine g_aload_n X dMO_takeSymbol_35 rfl 0 rfl ?_
        refine g_getr X hK.1 fw_MO_43 ly_41 rfl dMO_takeSymbol_36 ?_
        refine g_bipush X (v := (16 : Int32)) dMO_takeSymbol_39 (by decide) ?_
        refine g_iload_n X dMO_takeSymbol_41 rfl 1 rfl ?_
        refine g_imul X dMO_takeSymbol_42 ?_
        refine g_iload X dMO_takeSymbol_43 4 rfl ?_
        refine g_iadd X dMO_takeSymbol_45 ?_
        refine g_aload_n X dMO_takeSymbol_46 rfl 0 rfl ?_
        refine g_getr X hK.1 fw_MO_70 ly_41 rfl dMO_takeSymbol_47 ?_
        refine g_aload_n X dMO_takeSymbol_50 rfl 0 rfl ?_
        refine g_iload_n X dMO_takeSymbol_51 rfl 2 rfl ?_
        refine g_callV X hK gTs_ok ly_41 rfl mw_MO_namePlace tw_1319 mi_MO_namePlace ms_MO_namePlace (As := [.int v2]) rfl ⟨(Nat.le_of_ble_eq_true rfl), (Nat.le_of_ble_eq_true rfl), Nat.le_refl _, Nat.le_refl _⟩ (m_MO_namePlace h) (rest := [.ref (base + 62), .int (((16 : Int32) * v1) + v4), .ref (base + 53)]) rfl (Nat.le_of_ble_eq_true rfl) dMO_takeSymbol_52 (gk_i (fun r21 M22 h => ?_))
        refine g_iload X dMO_takeSymbol_55 4 rfl ?_
        refine g_iadd X dMO_takeSymbol_57 ?_
        obtain ⟨hi, h⟩ := h
        refine g_iald X hK.1 ly_62 hi dMO_takeSymbol_58 ?_
        obtain ⟨hi, h⟩ := h
        refine g_iast X hK.1 ly_53 hi dMO_takeSymbol_59 ?_
        refine g_topM (fun M23 eM23 => ?_)
        have h := h M23 eM23
        obtain ⟨x24, ex24⟩ : ∃ z : Int32, z = v4 + (1 : Int32) := ⟨_, rfl⟩
        have h := h x24 ex24
        refine g_iinc X (L' := [(4, .int x24), (0, .ref (base + 41)), (1, .int v1), (2, .int v2), (3, .int v3)]) (k := 4) dMO_takeSymbol_60 rfl (v := x24) (by rw [ex24]; rfl) (Nat.le_of_ble_eq_true rfl) rfl ?_
        refine g_goto X dMO_takeSymbol_63 ?_
        refine g_sub (L' := [(0, .ref (base + 41)), (1, .int v1), (2, .int v2), (3, .int v3), (4, .int x24)]) [1, 2, 3, 4, 0] rfl ?_
        exact ih v1 v2 v3 x24 M23 h
  refine g_args (L' := [(0, .ref (base + 41)), (1, .int a0), (2, .int a1)]) rfl ?_
  unfold wp_MO_takeSymbol at h
  refine g_aload_n X dMO_takeSymbol_0 rfl 0 rfl ?_
  refine g_iload_n X dMO_takeSymbol_1 rfl 2 rfl ?_
  refine g_callV X hK gTs_ok ly_41 rfl mw_MO_symbolPlace tw_1315 mi_MO_symbolPlace ms_MO_symbolPlace (As := [.int a1]) rfl ⟨(Nat.le_of_ble_eq_true rfl), (Nat.le_of_ble_eq_true rfl), Nat.le_refl _, Nat.le_refl _⟩ (m_MO_symbolPlace h) (rest := []) rfl (Nat.le_of_ble_eq_true rfl) dMO_takeSymbol_2 (gk_i (fun r1 M2 h => ?_))
  refine g_istore_n X (L' := [(3, .int r1), (0, .ref (base + 41)), (1, .int a0), (2, .int a1)]) dMO_takeSymbol_5 rfl (Nat.le_of_ble_eq_true rfl) rfl ?_
  refine g_aload_n X dMO_takeSymbol_6 rfl 1 rfl ?_
  refine g_getr X hK.1 fw_MO_40 ly_41 rfl dMO_takeSymbol_7 ?_
  refine g_iload_n X dMO_takeSymbol_10 rfl 2 rfl ?_
  refine g_aload_n X dMO_takeSymbol_11 rfl 1 rfl ?_
  refine g_aload_n X dMO_takeSymbol_12 rfl 1 rfl ?_
  refine g_iload_n X dMO_takeSymbol_13 rfl 3 rfl ?_
  refine g_callV X hK gTs_ok ly_41 rfl mw_MO_namePlace tw_1319 mi_MO_namePlace ms_MO_namePlace (As := [.int a1]) rfl ⟨(Nat.le_of_ble_eq_true rfl), (Nat.le_of_ble_eq_true rfl), Nat.le_refl _, Nat.le_refl _⟩ (m_MO_namePlace h) (rest := [.ref (base + 41), .int a0, .ref (base + 52)]) rfl (Nat.le_of_ble_eq_true rfl) dMO_takeSymbol_14 (gk_i (fun r3 M4 h => ?_))
  refine g_callV X hK gTs_ok ly_41 rfl mw_MO_nameLength tw_1327 mi_MO_nameLength ms_MO_nameLength (As := [.int r3]) rfl ⟨(Nat.le_of_ble_eq_true rfl), (Nat.le_of_ble_eq_true rfl), Nat.le_refl _, Nat.le_refl _⟩ (m_MO_nameLength h) (rest := [.int a0, .ref (base + 52)]) rfl (Nat.le_of_ble_eq_true rfl) dMO_takeSymbol_17 (gk_i (fun r5 M6 h => ?_))
  obtain ⟨hi, h⟩ := h
  refine g_iast X hK.1 ly_52 hi dMO_takeSymbol_20 ?_
  refine g_topM (fun M7 eM7 => ?_)
  have h := h M7 eM7
  refine g_iconst X (v := (0 : Int32)) dMO_takeSymbol_21 (by decide) ?_
  refine g_istore X (L' := [(4, .int (0 : Int32)), (3, .int r1), (0, .ref (base + 41)), (1, .int a0), (2, .int a1)]) dMO_takeSymbol_22 (Nat.le_of_ble_eq_true rfl) rfl ?_
  refine g_sub (L' := [(0, .ref (base + 41)), (1, .int a0), (2, .int a1), (3, .int r1), (4, .int (0 : Int32))]) [2, 3, 4, 1, 0] rfl ?_
  obtain ⟨n9, h⟩ := h
  exact r_24 n9 a0 a1 r1 (0 : Int32) M7 h
set_option maxRecDepth 100000 in
set_option maxHeartbeats 4000000 in
theorem m_MO_read {l : Launch} {D : va_G} {ta : Nat → ClassId} {base : Nat} {sa : Nat → Nat} {post : Int32 → gMem → Prop} {M : gMem} (h : wp_MO_read post M) : GC gLay gCl D ta base gNw sa gTabs gTs l y_MO_read b_MO_read 5 (some .int) 9 205 [.ref (base + 41)] M (gPi post) := by
  refine GC.of (own := "ObjectFileModel") pn_MO rfl (Nat.le_of_ble_eq_true rfl) ?_
  intro p e s m below meth c X hK hr hlk
  have r_257 : ∀ (k236 : Int32 → gMem → Prop) (hk236 : ∀ (v2 : Int32) (M : gMem), k236 v2 M → GMx D ta base p l e 9 205 s m [.ref (base + 41)] below meth c (gPi post) 5 236 [(0, .ref (base + 41)), (2, .int v2)] [] M) (n : Nat) (v2 : Int32) (v3 : Int32) (v4 : Int32) (M : gMem), wl_MO_read_257 post k236 n v2 v3 v4 M → GMx D ta base p l e 9 205 s m [.ref (base + 41)] below meth c (gPi post) 5 257 [(0, .ref (base + 41)), (2, .int v2), (3, .int v3), (4, .int v4)] [] M := by
    intro k236 hk236 n
    induction n with
    | zero => exact fun _ _ _ M h => h.elim
    | succ n ih =>
      intro v2 v3 v4 M h
      refine g_iload X dMO_read_257 3 rfl ?_
      refine g_iload_n X dMO_read_259 rfl 2 rfl ?_
      refine g_icmp_ge X dMO_read_260 (fun c => ?_) (fun c => ?_)
      · have h := h.1 c
        obtain ⟨x14, ex14⟩ : ∃ z : Int32, z = v2 + (1 : Int32) := ⟨_, rfl⟩
        have h := h x14 ex14
        refine g_iinc X (L' := [(2, .int x14), (0, .ref (base + 41)), (3, .int v3), (4, .int v4)]) (k := 1) dMO_read_287 rfl (v := x14) (by rw [ex14]; rfl) (Nat.le_of_ble_eq_true rfl) rfl ?_
        refine g_goto X dMO_read_290 ?_
        refine g_sub (L' := [(0, .ref (base + 41)), (2, .int x14)]) [1, 0] rfl ?_
        exact hk236 x14 M h
      · have h := h.2 c
        refine g_aload_n X dMO_read_263 rfl 0 rfl ?_
        refine g_iload_n X dMO_read_264 rfl 1 rfl ?_
        refine g_aload_n X dMO_read_265 rfl 0 rfl ?_
        refine g_iconst X (v := (5 : Int32)) dMO_read_266 (by decide) ?_
        refine g_iload_n X dMO_read_267 rfl 1 rfl ?_
        refine g_iadd X dMO_read_268 ?_
        refine g_callV X hK gTs_ok ly_41 rfl mw_MO_from tw_1303 mi_MO_from ms_MO_from (As := [.int ((5 : Int32) + v2)]) rfl ⟨(Nat.le_of_ble_eq_true rfl), (Nat.le_of_ble_eq_true rfl), Nat.le_refl _, Nat.le_refl _⟩ (m_MO_from h) (rest := [.int v2, .ref (base + 41)]) rfl (Nat.le_of_ble_eq_true rfl) dMO_read_269 (gk_i (fun r15 M16 h => ?_))
        refine g_bipush X (v := (12 : Int32)) dMO_read_272 (by decide) ?_
        refine g_iload X dMO_read_274 3 rfl ?_
        refine g_imul X dMO_read_276 ?_
        refine g_iadd X dMO_read_277 ?_
        refine g_callV X hK gTs_ok ly_41 rfl mw_MO_takeRelocation tw_1365 mi_MO_takeRelocation ms_MO_takeRelocation (As := [.int v2, .int (r15 + ((12 : Int32) * v4))]) rfl ⟨(Nat.le_of_ble_eq_true rfl), (Nat.le_of_ble_eq_true rfl), Nat.le_refl _, Nat.le_refl _⟩ (m_MO_takeRelocation h) (rest := []) rfl (Nat.le_of_ble_eq_true rfl) dMO_read_278 (gk_v (fun M18 h => ?_))
        obtain ⟨x19, ex19⟩ : ∃ z : Int32, z = v4 + (1 : Int32) := ⟨_, rfl⟩
        have h := h x19 ex19
        refine g_iinc X (L' := [(4, .int x19), (0, .ref (base + 41)), (2, .int v2), (3, .int v3)]) (k := 3) dMO_read_281 rfl (v := x19) (by rw [ex19]; rfl) (Nat.le_of_ble_eq_true rfl) rfl ?_
        refine g_goto X dMO_read_284 ?_
        refine g_sub (L' := [(0, .ref (base + 41)), (2, .int v2), (3, .int v3), (4, .int x19)]) [1, 2, 3, 0] rfl ?_
        exact ih v2 v3 x19 M18 h
  have r_236 : ∀ (n : Nat) (v2 : Int32) (M : gMem), wl_MO_read_236 post n v2 M → GMx D ta base p l e 9 205 s m [.ref (base + 41)] below meth c (gPi post) 5 236 [(0, .ref (base + 41)), (2, .int v2)] [] M := by
    intro n
    induction n with
    | zero => exact fun _ M h => h.elim
    | succ n ih =>
      intro v2 M h
      refine g_iload_n X dMO_read_236 rfl 1 rfl ?_
      refine g_iconst X (v := (3 : Int32)) dMO_read_237 (by decide) ?_
      refine g_icmp_ge X dMO_read_238 (fun c => ?_) (fun c => ?_)
      · have h := h.1 c
        refine g_iconst X (v := (0 : Int32)) dMO_read_293 (by decide) ?_
        exact g_iret X hr hlk dMO_read_294 ⟨_, rfl, h⟩
      · have h := h.2 c
        refine g_aload_n X dMO_read_241 rfl 0 rfl ?_
        refine g_iconst X (v := (5 : Int32)) dMO_read_242 (by decide) ?_
        refine g_iload_n X dMO_read_243 rfl 1 rfl ?_
        refine g_iadd X dMO_read_244 ?_
        refine g_callV X hK gTs_ok ly_41 rfl mw_MO_bytesOf tw_1299 mi_MO_bytesOf ms_MO_bytesOf (As := [.int ((5 : Int32) + v2)]) rfl ⟨(Nat.le_of_ble_eq_true rfl), (Nat.le_of_ble_eq_true rfl), Nat.le_refl _, Nat.le_refl _⟩ (m_MO_bytesOf h) (rest := []) rfl (Nat.le_of_ble_eq_true rfl) dMO_read_245 (gk_l (fun r11 M12 h => ?_))
        refine g_ldc2 X (v := (12 : Int64)) (tw_1293) dMO_read_248 ?_
        refine g_ldiv X dMO_read_251 (by decide) ?_
        refine g_l2i X dMO_read_252 rfl ?_
        refine g_topi (fun x13 ex13 => ?_)
        have h := h x13 ex13
        refine g_istore_n X (L' := [(3, .int x13), (0, .ref (base + 41)), (2, .int v2)]) dMO_read_253 rfl (Nat.le_of_ble_eq_true rfl) rfl ?_
        refine g_iconst X (v := (0 : Int32)) dMO_read_254 (by decide) ?_
        refine g_istore X (L' := [(4, .int (0 : Int32)), (3, .int x13), (0, .ref (base + 41)), (2, .int v2)]) dMO_read_255 (Nat.le_of_ble_eq_true rfl) rfl ?_
        refine g_sub (L' := [(0, .ref (base + 41)), (2, .int v2), (3, .int x13), (4, .int (0 : Int32))]) [2, 3, 1, 0] rfl ?_
        obtain ⟨n9, h⟩ := h
        exact r_257 _ (ih) n9 v2 x13 (0 : Int32) M12 h
  have r_200 : ∀ (n : Nat) (v2 : Int32) (M : gMem), wl_MO_read_200 post n v2 M → GMx D ta base p l e 9 205 s m [.ref (base + 41)] below meth c (gPi post) 5 200 [(0, .ref (base + 41)), (2, .int v2)] [] M := by
    intro n
    induction n with
    | zero => exact fun _ M h => h.elim
    | succ n ih =>
      intro v2 M h
      refine g_iload_n X dMO_read_200 rfl 1 rfl ?_
      refine g_aload_n X dMO_read_201 rfl 0 rfl ?_
      refine g_getr X hK.1 fw_MO_46 ly_41 rfl dMO_read_202 ?_
      refine g_iconst X (v := (1 : Int32)) dMO_read_205 (by decide) ?_
      obtain ⟨hi, h⟩ := h
      refine g_iald X hK.1 ly_54 hi dMO_read_206 ?_
      refine g_icmp_ge X dMO_read_207 (fun c => ?_) (fun c => ?_)
      · have h := h.1 c
        refine g_aload_n X dMO_read_227 rfl 0 rfl ?_
        refine g_getr X hK.1 fw_MO_64 ly_41 rfl dMO_read_228 ?_
        refine g_iconst X (v := (1 : Int32)) dMO_read_231 (by decide) ?_
        refine g_iconst X (v := (0 : Int32)) dMO_read_232 (by decide) ?_
        obtain ⟨hi, h⟩ := h
        refine g_iast X hK.1 ly_60 hi dMO_read_233 ?_
        refine g_topM (fun M10 eM10 => ?_)
        have h := h M10 eM10
        refine g_iconst X (v := (0 : Int32)) dMO_read_234 (by decide) ?_
        refine g_istore_n X (L' := [(2, .int (0 : Int32)), (0, .ref (base + 41))]) dMO_read_235 rfl (Nat.le_of_ble_eq_true rfl) rfl ?_
        refine g_sub (L' := [(0, .ref (base + 41)), (2, .int (0 : Int32))]) [1, 0] rfl ?_
        obtain ⟨n9, h⟩ := h
        exact r_236 n9 (0 : Int32) M10 h
      · have h := h.2 c
        refine g_aload_n X dMO_read_210 rfl 0 rfl ?_
        refine g_bipush X (v := (100 : Int32)) dMO_read_211 (by decide) ?_
        refine g_iload_n X dMO_read_213 rfl 1 rfl ?_
        refine g_iadd X dMO_read_214 ?_
        refine g_iconst X (v := (1 : Int32)) dMO_read_215 (by decide) ?_
        refine g_iload_n X dMO_read_216 rfl 1 rfl ?_
        refine g_iadd X dMO_read_217 ?_
        refine g_callV X hK gTs_ok ly_41 rfl mw_MO_takeSymbol tw_1361 mi_MO_takeSymbol ms_MO_takeSymbol (As := [.int ((100 : Int32) + v2), .int ((1 : Int32) + v2)]) rfl ⟨(Nat.le_of_ble_eq_true rfl), (Nat.le_of_ble_eq_true rfl), Nat.le_refl _, Nat.le_refl _⟩ (m_MO_takeSymbol h) (rest := []) rfl (Nat.le_of_ble_eq_true rfl) dMO_read_218 (gk_v (fun M21 h => ?_))
        obtain ⟨x22, ex22⟩ : ∃ z : Int32, z = v2 + (1 : Int32) := ⟨_, rfl⟩
        have h := h x22 ex22
        refine g_iinc X (L' := [(2, .int x22), (0, .ref (base + 41))]) (k := 1) dMO_read_221 rfl (v := x22) (by rw [ex22]; rfl) (Nat.le_of_ble_eq_true rfl) rfl ?_
        refine g_goto X dMO_read_224 ?_
        refine g_sub (L' := [(0, .ref (base + 41)), (2, .int x22)]) [1, 0] rfl ?_
        exact ih x22 M21 h
  have r_147 : ∀ (n : Nat) (v2 : Int32) (M : gMem), wl_MO_read_147 post n v2 M → GMx D ta base p l e 9 205 s m [.ref (base + 41)] below meth c (gPi post) 5 147 [(0, .ref (base + 41)), (2, .int v2)] [] M := by
    intro n
    induction n with
    | zero => exact fun _ M h => h.elim
    | succ n ih =>
      intro v2 M h
      refine g_iload_n X dMO_read_147 rfl 1 rfl ?_
      refine g_aload_n X dMO_read_148 rfl 0 rfl ?_
      refine g_getr X hK.1 fw_MO_22 ly_41 rfl dMO_read_149 ?_
      refine g_iconst X (v := (1 : Int32)) dMO_read_152 (by decide) ?_
      obtain ⟨hi, h⟩ := h
      refine g_iald X hK.1 ly_46 hi dMO_read_153 ?_
      refine g_icmp_ge X dMO_read_154 (fun c => ?_) (fun c => ?_)
      · have h := h.1 c
        refine g_aload_n X dMO_read_186 rfl 0 rfl ?_
        refine g_getr X hK.1 fw_MO_46 ly_41 rfl dMO_read_187 ?_
        refine g_iconst X (v := (1 : Int32)) dMO_read_190 (by decide) ?_
        refine g_aload_n X dMO_read_191 rfl 0 rfl ?_
        refine g_callV X hK gTs_ok ly_41 rfl mw_MO_symbolsIn tw_1307 mi_MO_symbolsIn ms_MO_symbolsIn (As := []) rfl ⟨(Nat.le_of_ble_eq_true rfl), (Nat.le_of_ble_eq_true rfl), Nat.le_refl _, Nat.le_refl _⟩ (m_MO_symbolsIn h) (rest := [.int (1 : Int32), .ref (base + 54)]) rfl (Nat.le_of_ble_eq_true rfl) dMO_read_192 (gk_i (fun r7 M8 h => ?_))
        refine g_iconst X (v := (1 : Int32)) dMO_read_195 (by decide) ?_
        refine g_isub X dMO_read_196 ?_
        obtain ⟨hi, h⟩ := h
        refine g_iast X hK.1 ly_54 hi dMO_read_197 ?_
        refine g_topM (fun M9 eM9 => ?_)
        have h := h M9 eM9
        refine g_iconst X (v := (0 : Int32)) dMO_read_198 (by decide) ?_
        refine g_istore_n X (L' := [(2, .int (0 : Int32)), (0, .ref (base + 41))]) dMO_read_199 rfl (Nat.le_of_ble_eq_true rfl) rfl ?_
        refine g_sub (L' := [(0, .ref (base + 41)), (2, .int (0 : Int32))]) [1, 0] rfl ?_
        obtain ⟨n9, h⟩ := h
        exact r_200 n9 (0 : Int32) M9 h
      · have h := h.2 c
        refine g_aload_n X dMO_read_157 rfl 0 rfl ?_
        refine g_getr X hK.1 fw_MO_19 ly_41 rfl dMO_read_158 ?_
        refine g_sipush X (v := (1024 : Int32)) dMO_read_161 (by decide) ?_
        refine g_iload_n X dMO_read_164 rfl 1 rfl ?_
        refine g_iadd X dMO_read_165 ?_
        refine g_aload_n X dMO_read_166 rfl 0 rfl ?_
        refine g_aload_n X dMO_read_167 rfl 0 rfl ?_
        refine g_iconst X (v := (4 : Int32)) dMO_read_168 (by decide) ?_
        refine g_callV X hK gTs_ok ly_41 rfl mw_MO_from tw_1303 mi_MO_from ms_MO_from (As := [.int (4 : Int32)]) rfl ⟨(Nat.le_of_ble_eq_true rfl), (Nat.le_of_ble_eq_true rfl), Nat.le_refl _, Nat.le_refl _⟩ (m_MO_from h) (rest := [.ref (base + 41), .int ((1024 : Int32) + v2), .ref (base + 45)]) rfl (Nat.le_of_ble_eq_true rfl) dMO_read_169 (gk_i (fun r23 M24 h => ?_))
        refine g_iconst X (v := (2 : Int32)) dMO_read_172 (by decide) ?_
        refine g_iload_n X dMO_read_173 rfl 1 rfl ?_
        refine g_imul X dMO_read_174 ?_
        refine g_iadd X dMO_read_175 ?_
        refine g_callV X hK gTs_ok ly_41 rfl mw_MO_read2 tw_1247 mi_MO_read2 ms_MO_read2 (As := [.int (r23 + ((2 : Int32) * v2))]) rfl ⟨(Nat.le_of_ble_eq_true rfl), (Nat.le_of_ble_eq_true rfl), Nat.le_refl _, Nat.le_refl _⟩ (m_MO_read2 h) (rest := [.int ((1024 : Int32) + v2), .ref (base + 45)]) rfl (Nat.le_of_ble_eq_true rfl) dMO_read_176 (gk_i (fun r25 M26 h => ?_))
        obtain ⟨hi, h⟩ := h
        refine g_iast X hK.1 ly_45 hi dMO_read_179 ?_
        refine g_topM (fun M27 eM27 => ?_)
        have h := h M27 eM27
        obtain ⟨x28, ex28⟩ : ∃ z : Int32, z = v2 + (1 : Int32) := ⟨_, rfl⟩
        have h := h x28 ex28
        refine g_iinc X (L' := [(2, .int x28), (0, .ref (base + 41))]) (k := 1) dMO_read_180 rfl (v := x28) (by rw [ex28]; rfl) (Nat.le_of_ble_eq_true rfl) rfl ?_
        refine g_goto X dMO_read_183 ?_
        refine g_sub (L' := [(0, .ref (base + 41)), (2, .int x28)]) [1, 0] rfl ?_
        exact ih x28 M27 h
  have r_71 : ∀ (k18 : Int32 → gMem → Prop) (hk18 : ∀ (v2 : Int32) (M : gMem), k18 v2 M → GMx D ta base p l e 9 205 s m [.ref (base + 41)] below meth c (gPi post) 5 18 [(0, .ref (base + 41)), (2, .int v2)] [] M) (n : Nat) (v2 : Int32) (v4 : Int32) (M : gMem), wl_MO_read_71 post k18 n v2 v4 M → GMx D ta base p l e 9 205 s m [.ref (base + 41)] below meth c (gPi post) 5 71 [(0, .ref (base + 41)), (2, .int v2), (4, .int v4)] [] M := by
    intro k18 hk18 n
    induction n with
    | zero => exact fun _ _ M h => h.elim
    | succ n ih =>
      intro v2 v4 M h
      refine g_iload X dMO_read_71 2 rfl ?_
      refine g_aload_n X dMO_read_73 rfl 0 rfl ?_
      refine g_getr X hK.1 fw_MO_13 ly_41 rfl dMO_read_74 ?_
      refine g_iconst X (v := (4 : Int32)) dMO_read_77 (by decide) ?_
      refine g_iload_n X dMO_read_78 rfl 1 rfl ?_
      refine g_iadd X dMO_read_79 ?_
      obtain ⟨hi, h⟩ := h
      refine g_iald X hK.1 ly_43 hi dMO_read_80 ?_
      refine g_icmp_ge X dMO_read_81 (fun c => ?_) (fun c => ?_)
      · have h := h.1 c
        obtain ⟨x36, ex36⟩ : ∃ z : Int32, z = v2 + (1 : Int32) := ⟨_, rfl⟩
        have h := h x36 ex36
        refine g_iinc X (L' := [(2, .int x36), (0, .ref (base + 41)), (4, .int v4)]) (k := 1) dMO_read_125 rfl (v := x36) (by rw [ex36]; rfl) (Nat.le_of_ble_eq_true rfl) rfl ?_
        refine g_goto X dMO_read_128 ?_
        refine g_sub (L' := [(0, .ref (base + 41)), (2, .int x36)]) [1, 0] rfl ?_
        exact hk18 x36 M h
      · have h := h.2 c
        refine g_iload_n X dMO_read_84 rfl 1 rfl ?_
        refine g_iconst X (v := (3 : Int32)) dMO_read_85 (by decide) ?_
        refine g_icmp_ge X dMO_read_86 (fun c => ?_) (fun c => ?_)
        · have h := h.1 c
          obtain ⟨x37, ex37⟩ : ∃ z : Int32, z = v2 + (1 : Int32) := ⟨_, rfl⟩
          have h := h x37 ex37
          refine g_iinc X (L' := [(2, .int x37), (0, .ref (base + 41)), (4, .int v4)]) (k := 1) dMO_read_125 rfl (v := x37) (by rw [ex37]; rfl) (Nat.le_of_ble_eq_true rfl) rfl ?_
          refine g_goto X dMO_read_128 ?_
          refine g_sub (L' := [(0, .ref (base + 41)), (2, .int x37)]) [1, 0] rfl ?_
          exact hk18 x37 M h
        · have h := h.2 c
          refine g_aload_n X dMO_read_89 rfl 0 rfl ?_
          refine g_getr X hK.1 fw_MO_7 ly_41 rfl dMO_read_90 ?_
          refine g_sipush X (v := (6144 : Int32)) dMO_read_93 (by decide) ?_
          refine g_sipush X (v := (2048 : Int32)) dMO_read_96 (by decide) ?_
          refine g_iload_n X dMO_read_99 rfl 1 rfl ?_
          refine g_imul X dMO_read_100 ?_
          refine g_iadd X dMO_read_101 ?_
          refine g_iload X dMO_read_102 2 rfl ?_
          refine g_iadd X dMO_read_104 ?_
          refine g_aload_n X dMO_read_105 rfl 0 rfl ?_
          refine g_getr X hK.1 fw_MO_70 ly_41 rfl dMO_read_106 ?_
          refine g_aload_n X dMO_read_109 rfl 0 rfl ?_
          refine g_iload_n X dMO_read_110 rfl 1 rfl ?_
          refine g_callV X hK gTs_ok ly_41 rfl mw_MO_from tw_1303 mi_MO_from ms_MO_from (As := [.int v2]) rfl ⟨(Nat.le_of_ble_eq_true rfl), (Nat.le_of_ble_eq_true rfl), Nat.le_refl _, Nat.le_refl _⟩ (m_MO_from h) (rest := [.ref (base + 62), .int (((6144 : Int32) + ((2048 : Int32) * v2)) + v4), .ref (base + 42)]) rfl (Nat.le_of_ble_eq_true rfl) dMO_read_111 (gk_i (fun r38 M39 h => ?_))
          refine g_iload X dMO_read_114 2 rfl ?_
          refine g_iadd X dMO_read_116 ?_
          obtain ⟨hi, h⟩ := h
          refine g_iald X hK.1 ly_62 hi dMO_read_117 ?_
          obtain ⟨hi, h⟩ := h
          refine g_iast X hK.1 ly_42 hi dMO_read_118 ?_
          refine g_topM (fun M40 eM40 => ?_)
          have h := h M40 eM40
          obtain ⟨x41, ex41⟩ : ∃ z : Int32, z = v4 + (1 : Int32) := ⟨_, rfl⟩
          have h := h x41 ex41
          refine g_iinc X (L' := [(4, .int x41), (0, .ref (base + 41)), (2, .int v2)]) (k := 2) dMO_read_119 rfl (v := x41) (by rw [ex41]; rfl) (Nat.le_of_ble_eq_true rfl) rfl ?_
          refine g_goto X dMO_read_122 ?_
          refine g_sub (L' := [(0, .ref (base + 41)), (2, .int v2), (4, .int x41)]) [1, 2, 0] rfl ?_
          exact ih v2 x41 M40 h
  have r_18 : ∀ (n : Nat) (v2 : Int32) (M : gMem), wl_MO_read_18 post n v2 M → GMx D ta base p l e 9 205 s m [.ref (base + 41)] below meth c (gPi post) 5 18 [(0, .ref (base + 41)), (2, .int v2)] [] M := by
    intro n
    induction n with
    | zero => exact fun _ M h => h.elim
    | succ n ih =>
      intro v2 M h
      refine g_iload_n X dMO_read_18 rfl 1 rfl ?_
      refine g_iconst X (v := (4 : Int32)) dMO_read_19 (by decide) ?_
      refine g_icmp_ge X dMO_read_20 (fun c => ?_) (fun c => ?_)
      · have h := h.1 c
        refine g_aload_n X dMO_read_131 rfl 0 rfl ?_
        refine g_getr X hK.1 fw_MO_22 ly_41 rfl dMO_read_132 ?_
        refine g_iconst X (v := (1 : Int32)) dMO_read_135 (by decide) ?_
        refine g_aload_n X dMO_read_136 rfl 0 rfl ?_
        refine g_iconst X (v := (4 : Int32)) dMO_read_137 (by decide) ?_
        refine g_callV X hK gTs_ok ly_41 rfl mw_MO_bytesOf tw_1299 mi_MO_bytesOf ms_MO_bytesOf (As := [.int (4 : Int32)]) rfl ⟨(Nat.le_of_ble_eq_true rfl), (Nat.le_of_ble_eq_true rfl), Nat.le_refl _, Nat.le_refl _⟩ (m_MO_bytesOf h) (rest := [.int (1 : Int32), .ref (base + 46)]) rfl (Nat.le_of_ble_eq_true rfl) dMO_read_138 (gk_l (fun r4 M5 h => ?_))
        refine g_l2i X dMO_read_141 rfl ?_
        refine g_iconst X (v := (2 : Int32)) dMO_read_142 (by decide) ?_
        refine g_idiv X dMO_read_143 (by decide) ?_
        obtain ⟨hi, h⟩ := h
        refine g_iast X hK.1 ly_46 hi dMO_read_144 ?_
        refine g_topM (fun M6 eM6 => ?_)
        have h := h M6 eM6
        refine g_iconst X (v := (0 : Int32)) dMO_read_145 (by decide) ?_
        refine g_istore_n X (L' := [(2, .int (0 : Int32)), (0, .ref (base + 41))]) dMO_read_146 rfl (Nat.le_of_ble_eq_true rfl) rfl ?_
        refine g_sub (L' := [(0, .ref (base + 41)), (2, .int (0 : Int32))]) [1, 0] rfl ?_
        obtain ⟨n9, h⟩ := h
        exact r_147 n9 (0 : Int32) M6 h
      · have h := h.2 c
        refine g_aload_n X dMO_read_23 rfl 0 rfl ?_
        refine g_getr X hK.1 fw_MO_107 ly_41 rfl dMO_read_24 ?_
        refine g_iload_n X dMO_read_27 rfl 1 rfl ?_
        obtain ⟨hi, h⟩ := h
        refine g_iald X hK.1 ly_73 hi dMO_read_28 ?_
        refine g_topi (fun x29 ex29 => ?_)
        have h := h x29 ex29
        refine g_istore_n X (L' := [(3, .int x29), (0, .ref (base + 41)), (2, .int v2)]) dMO_read_29 rfl (Nat.le_of_ble_eq_true rfl) rfl ?_
        refine g_aload_n X dMO_read_30 rfl 1 rfl ?_
        refine g_getr X hK.1 fw_MO_13 ly_41 rfl dMO_read_31 ?_
        refine g_iconst X (v := (4 : Int32)) dMO_read_34 (by decide) ?_
        refine g_iload_n X dMO_read_35 rfl 2 rfl ?_
        refine g_iadd X dMO_read_36 ?_
        refine g_aload_n X dMO_read_37 rfl 1 rfl ?_
        refine g_iload_n X dMO_read_38 rfl 2 rfl ?_
        refine g_callV X hK gTs_ok ly_41 rfl mw_MO_bytesOf tw_1299 mi_MO_bytesOf ms_MO_bytesOf (As := [.int v2]) rfl ⟨(Nat.le_of_ble_eq_true rfl), (Nat.le_of_ble_eq_true rfl), Nat.le_refl _, Nat.le_refl _⟩ (m_MO_bytesOf h) (rest := [.int ((4 : Int32) + v2), .ref (base + 43)]) rfl (Nat.le_of_ble_eq_true rfl) dMO_read_39 (gk_l (fun r30 M31 h => ?_))
        refine g_l2i X dMO_read_42 rfl ?_
        obtain ⟨hi, h⟩ := h
        refine g_iast X hK.1 ly_43 hi dMO_read_43 ?_
        refine g_topM (fun M32 eM32 => ?_)
        have h := h M32 eM32
        refine g_aload_n X dMO_read_44 rfl 1 rfl ?_
        refine g_getr X hK.1 fw_MO_16 ly_41 rfl dMO_read_45 ?_
        refine g_iconst X (v := (4 : Int32)) dMO_read_48 (by decide) ?_
        refine g_iload_n X dMO_read_49 rfl 2 rfl ?_
        refine g_iadd X dMO_read_50 ?_
        refine g_iload_n X dMO_read_51 rfl 0 rfl ?_
        refine g_if_ne X dMO_read_52 (fun c => ?_) (fun c => ?_)
        · have h := h.1 c
          refine g_aload_n X dMO_read_59 rfl 1 rfl ?_
          refine g_iload_n X dMO_read_60 rfl 0 rfl ?_
          refine g_bipush X (v := (8 : Int32)) dMO_read_61 (by decide) ?_
          refine g_callV X hK gTs_ok ly_41 rfl mw_MO_told tw_1263 mi_MO_told ms_MO_told (As := [.int x29, .int (8 : Int32)]) rfl ⟨(Nat.le_of_ble_eq_true rfl), (Nat.le_of_ble_eq_true rfl), Nat.le_refl _, Nat.le_refl _⟩ (m_MO_told h) (rest := [.int ((4 : Int32) + v2), .ref (base + 44)]) rfl (Nat.le_of_ble_eq_true rfl) dMO_read_63 (gk_l (fun r33 M34 h => ?_))
          refine g_l2i X dMO_read_66 rfl ?_
          obtain ⟨hi, h⟩ := h
          refine g_iast X hK.1 ly_44 hi dMO_read_67 ?_
          refine g_topM (fun M35 eM35 => ?_)
          have h := h M35 eM35
          refine g_iconst X (v := (0 : Int32)) dMO_read_68 (by decide) ?_
          refine g_istore X (L' := [(4, .int (0 : Int32)), (3, .int x29), (0, .ref (base + 41)), (2, .int v2)]) dMO_read_69 (Nat.le_of_ble_eq_true rfl) rfl ?_
          refine g_sub (L' := [(0, .ref (base + 41)), (2, .int v2), (4, .int (0 : Int32))]) [2, 3, 0] rfl ?_
          obtain ⟨n9, h⟩ := h
          exact r_71 _ (ih) n9 v2 (0 : Int32) M35 h
        · have h := h.2 c
          refine g_iconst X (v := (1 : Int32)) dMO_read_55 (by decide) ?_
          refine g_goto X dMO_read_56 ?_
          obtain ⟨hi, h⟩ := h
          refine g_iast X hK.1 ly_44 hi dMO_read_67 ?_
          refine g_topM (fun M42 eM42 => ?_)
          have h := h M42 eM42
          refine g_iconst X (v := (0 : Int32)) dMO_read_68 (by decide) ?_
          refine g_istore X (L' := [(4, .int (0 : Int32)), (3, .int x29), (0, .ref (base + 41)), (2, .int v2)]) dMO_read_69 (Nat.le_of_ble_eq_true rfl) rfl ?_
          refine g_sub (L' := [(0, .ref (base + 41)), (2, .int v2), (4, .int (0 : Int32))]) [2, 3, 0] rfl ?_
          obtain ⟨n9, h⟩ := h
          exact r_71 _ (ih) n9 v2 (0 : Int32) M42 h
  refine g_args (L' := [(0, .ref (base + 41))]) rfl ?_
  unfold wp_MO_read at h
  refine g_aload_n X dMO_read_0 rfl 0 rfl ?_
  refine g_callV X hK gTs_ok ly_41 rfl mw_MO_allFaults tw_1235 mi_MO_allFaults ms_MO_allFaults (As := []) rfl ⟨(Nat.le_of_ble_eq_true rfl), (Nat.le_of_ble_eq_true rfl), Nat.le_refl _, Nat.le_refl _⟩ (m_MO_allFaults h) (rest := []) rfl (Nat.le_of_ble_eq_true rfl) dMO_read_1 (gk_i (fun r1 M2 h => ?_))
  refine g_istore_n X (L' := [(1, .int r1), (0, .ref (base + 41))]) dMO_read_4 rfl (Nat.le_of_ble_eq_true rfl) rfl ?_
  refine g_iload_n X dMO_read_5 rfl 0 rfl ?_
  refine g_if_eq X dMO_read_6 (fun c => ?_) (fun c => ?_)
  · have h := h.1 c
    refine g_aload_n X dMO_read_11 rfl 1 rfl ?_
    refine g_iconst X (v := (-1 : Int32)) dMO_read_12 (by decide) ?_
    refine g_puti X hK.1 fw_MO_73 pw_MO_23 ly_41 rfl dMO_read_13 ?_
    refine g_topM (fun M3 eM3 => ?_)
    have h := h M3 eM3
    refine g_iconst X (v := (0 : Int32)) dMO_read_16 (by decide) ?_
    refine g_istore_n X (L' := [(2, .int (0 : Int32)), (1, .int r1), (0, .ref (base + 41))]) dMO_read_17 rfl (Nat.le_of_ble_eq_true rfl) rfl ?_
    refine g_sub (L' := [(0, .ref (base + 41)), (2, .int (0 : Int32))]) [2, 0] rfl ?_
    obtain ⟨n9, h⟩ := h
    exact r_18 n9 (0 : Int32) M3 h
  · have h := h.2 c
    refine g_iload_n X dMO_read_9 rfl 0 rfl ?_
    exact g_iret X hr hlk dMO_read_10 ⟨_, rfl, h⟩
set_option maxRecDepth 100000 in
set_option maxHeartbeats 4000000 in
theorem m_MO_place {l : Launch} {D : va_G} {ta : Nat → ClassId} {base : Nat} {sa : Nat → Nat} {post : Int32 → gMem → Prop} {M : gMem} (h : wp_MO_place post M) : GC gLay gCl D ta base gNw sa gTabs gTs l y_MO_place b_MO_place 1 (some .int) 0 0 [.ref (base + 41)] M (gPi post) := by
  refine GC.of (own := "ObjectFileModel") pn_MO rfl (Nat.le_of_ble_eq_true rfl) ?_
  intro p e s m below meth c X hK hr hlk
  refine g_args (L' := [(0, .ref (base + 41))]) rfl ?_
  unfold wp_MO_place at h
  refine g_aload_n X dMO_place_0 rfl 0 rfl ?_
  refine g_geti X hK.1 fw_MO_73 ly_41 rfl dMO_place_1 ?_
  exact g_iret X hr hlk dMO_place_4 ⟨_, rfl, h⟩
set_option maxRecDepth 100000 in
set_option maxHeartbeats 4000000 in
theorem m_MO_keep {l : Launch} {D : va_G} {ta : Nat → ClassId} {base : Nat} {sa : Nat → Nat} {post : gMem → Prop} {M : gMem} (h : wp_MO_keep post M) : GC gLay gCl D ta base gNw sa gTabs gTs l y_MO_keep b_MO_keep 2 none 0 0 [.ref (base + 41)] M (gPv post) := by
  refine GC.of (own := "ObjectFileModel") pn_MO rfl (Nat.le_of_ble_eq_true rfl) ?_
  intro p e s m below meth c X hK hr hlk
  have r_240 : ∀ (n : Nat) (v1 : Int32) (M : gMem), wl_MO_keep_240 post n v1 M → GMx D ta base p l e 0 0 s m [.ref (base + 41)] below meth c (gPv post) 2 240 [(0, .ref (base + 41)), (1, .int v1)] [] M := by
    intro n
    induction n with
    | zero => exact fun _ M h => h.elim
    | succ n ih =>
      intro v1 M h
      refine g_iload_n X dMO_keep_240 rfl 1 rfl ?_
      refine g_sipush X (v := (300 : Int32)) dMO_keep_241 (by decide) ?_
      refine g_icmp_ge X dMO_keep_244 (fun c => ?_) (fun c => ?_)
      · have h := h.1 c
        refine g_aload_n X dMO_keep_333 rfl 0 rfl ?_
        refine g_getr X hK.1 fw_MO_22 ly_41 rfl dMO_keep_334 ?_
        refine g_iconst X (v := (0 : Int32)) dMO_keep_337 (by decide) ?_
        refine g_aload_n X dMO_keep_338 rfl 0 rfl ?_
        refine g_getr X hK.1 fw_MO_22 ly_41 rfl dMO_keep_339 ?_
        refine g_iconst X (v := (1 : Int32)) dMO_keep_342 (by decide) ?_
        obtain ⟨hi, h⟩ := h
        refine g_iald X hK.1 ly_46 hi dMO_keep_343 ?_
        obtain ⟨hi, h⟩ := h
        refine g_iast X hK.1 ly_46 hi dMO_keep_344 ?_
        refine g_topM (fun M1 eM1 => ?_)
        have h := h M1 eM1
        refine g_aload_n X dMO_keep_345 rfl 0 rfl ?_
        refine g_getr X hK.1 fw_MO_46 ly_41 rfl dMO_keep_346 ?_
        refine g_iconst X (v := (0 : Int32)) dMO_keep_349 (by decide) ?_
        refine g_aload_n X dMO_keep_350 rfl 0 rfl ?_
        refine g_getr X hK.1 fw_MO_46 ly_41 rfl dMO_keep_351 ?_
        refine g_iconst X (v := (1 : Int32)) dMO_keep_354 (by decide) ?_
        obtain ⟨hi, h⟩ := h
        refine g_iald X hK.1 ly_54 hi dMO_keep_355 ?_
        obtain ⟨hi, h⟩ := h
        refine g_iast X hK.1 ly_54 hi dMO_keep_356 ?_
        refine g_topM (fun M2 eM2 => ?_)
        have h := h M2 eM2
        refine g_aload_n X dMO_keep_357 rfl 0 rfl ?_
        refine g_getr X hK.1 fw_MO_64 ly_41 rfl dMO_keep_358 ?_
        refine g_iconst X (v := (0 : Int32)) dMO_keep_361 (by decide) ?_
        refine g_aload_n X dMO_keep_362 rfl 0 rfl ?_
        refine g_getr X hK.1 fw_MO_64 ly_41 rfl dMO_keep_363 ?_
        refine g_iconst X (v := (1 : Int32)) dMO_keep_366 (by decide) ?_
        obtain ⟨hi, h⟩ := h
        refine g_iald X hK.1 ly_60 hi dMO_keep_367 ?_
        obtain ⟨hi, h⟩ := h
        refine g_iast X hK.1 ly_60 hi dMO_keep_368 ?_
        refine g_topM (fun M3 eM3 => ?_)
        have h := h M3 eM3
        refine g_aload_n X dMO_keep_369 rfl 0 rfl ?_
        refine g_iconst X (v := (0 : Int32)) dMO_keep_370 (by decide) ?_
        refine g_puti X hK.1 fw_MO_134 pw_MO_20 ly_41 rfl dMO_keep_371 ?_
        refine g_topM (fun M4 eM4 => ?_)
        have h := h M4 eM4
        exact g_vret X hr hlk dMO_keep_374 ⟨rfl, h⟩
      · have h := h.2 c
        refine g_aload_n X dMO_keep_247 rfl 0 rfl ?_
        refine g_getr X hK.1 fw_MO_49 ly_41 rfl dMO_keep_248 ?_
        refine g_iload_n X dMO_keep_251 rfl 1 rfl ?_
        refine g_aload_n X dMO_keep_252 rfl 0 rfl ?_
        refine g_getr X hK.1 fw_MO_49 ly_41 rfl dMO_keep_253 ?_
        refine g_sipush X (v := (300 : Int32)) dMO_keep_256 (by decide) ?_
        refine g_iload_n X dMO_keep_259 rfl 1 rfl ?_
        refine g_iadd X dMO_keep_260 ?_
        obtain ⟨hi, h⟩ := h
        refine g_iald X hK.1 ly_55 hi dMO_keep_261 ?_
        obtain ⟨hi, h⟩ := h
        refine g_iast X hK.1 ly_55 hi dMO_keep_262 ?_
        refine g_topM (fun M5 eM5 => ?_)
        have h := h M5 eM5
        refine g_aload_n X dMO_keep_263 rfl 0 rfl ?_
        refine g_getr X hK.1 fw_MO_52 ly_41 rfl dMO_keep_264 ?_
        refine g_iload_n X dMO_keep_267 rfl 1 rfl ?_
        refine g_aload_n X dMO_keep_268 rfl 0 rfl ?_
        refine g_getr X hK.1 fw_MO_52 ly_41 rfl dMO_keep_269 ?_
        refine g_sipush X (v := (300 : Int32)) dMO_keep_272 (by decide) ?_
        refine g_iload_n X dMO_keep_275 rfl 1 rfl ?_
        refine g_iadd X dMO_keep_276 ?_
        obtain ⟨hi, h⟩ := h
        refine g_iald X hK.1 ly_56 hi dMO_keep_277 ?_
        obtain ⟨hi, h⟩ := h
        refine g_iast X hK.1 ly_56 hi dMO_keep_278 ?_
        refine g_topM (fun M6 eM6 => ?_)
        have h := h M6 eM6
        refine g_aload_n X dMO_keep_279 rfl 0 rfl ?_
        refine g_getr X hK.1 fw_MO_55 ly_41 rfl dMO_keep_280 ?_
        refine g_iload_n X dMO_keep_283 rfl 1 rfl ?_
        refine g_aload_n X dMO_keep_284 rfl 0 rfl ?_
        refine g_getr X hK.1 fw_MO_55 ly_41 rfl dMO_keep_285 ?_
        refine g_sipush X (v := (300 : Int32)) dMO_keep_288 (by decide) ?_
        refine g_iload_n X dMO_keep_291 rfl 1 rfl ?_
        refine g_iadd X dMO_keep_292 ?_
        obtain ⟨hi, h⟩ := h
        refine g_iald X hK.1 ly_57 hi dMO_keep_293 ?_
        obtain ⟨hi, h⟩ := h
        refine g_iast X hK.1 ly_57 hi dMO_keep_294 ?_
        refine g_topM (fun M7 eM7 => ?_)
        have h := h M7 eM7
        refine g_aload_n X dMO_keep_295 rfl 0 rfl ?_
        refine g_getr X hK.1 fw_MO_58 ly_41 rfl dMO_keep_296 ?_
        refine g_iload_n X dMO_keep_299 rfl 1 rfl ?_
        refine g_aload_n X dMO_keep_300 rfl 0 rfl ?_
        refine g_getr X hK.1 fw_MO_58 ly_41 rfl dMO_keep_301 ?_
        refine g_sipush X (v := (300 : Int32)) dMO_keep_304 (by decide) ?_
        refine g_iload_n X dMO_keep_307 rfl 1 rfl ?_
        refine g_iadd X dMO_keep_308 ?_
        obtain ⟨hi, h⟩ := h
        refine g_iald X hK.1 ly_58 hi dMO_keep_309 ?_
        obtain ⟨hi, h⟩ := h
        refine g_iast X hK.1 ly_58 hi dMO_keep_310 ?_
        refine g_topM (fun M8 eM8 => ?_)
        have h := h M8 eM8
        refine g_aload_n X dMO_keep_311 rfl 0 rfl ?_
        refine g_getr X hK.1 fw_MO_61 ly_41 rfl dMO_keep_312 ?_
        refine g_iload_n X dMO_keep_315 rfl 1 rfl ?_
        refine g_aload_n X dMO_keep_316 rfl 0 rfl ?_
        refine g_getr X hK.1 fw_MO_61 ly_41 rfl dMO_keep_317 ?_
        refine g_sipush X (v := (300 : Int32)) dMO_keep_320 (by decide) ?_
        refine g_iload_n X dMO_keep_323 rfl 1 rfl ?_
        refine g_iadd X dMO_keep_324 ?_
        obtain ⟨hi, h⟩ := h
        refine g_iald X hK.1 ly_59 hi dMO_keep_325 ?_
        obtain ⟨hi, h⟩ := h
        refine g_iast X hK.1 ly_59 hi dMO_keep_326 ?_
        refine g_topM (fun M9 eM9 => ?_)
        have h := h M9 eM9
        obtain ⟨x10, ex10⟩ : ∃ z : Int32, z = v1 + (1 : Int32) := ⟨_, rfl⟩
        have h := h x10 ex10
        refine g_iinc X (L' := [(1, .int x10), (0, .ref (base + 41))]) (k := 1) dMO_keep_327 rfl (v := x10) (by rw [ex10]; rfl) (Nat.le_of_ble_eq_true rfl) rfl ?_
        refine g_goto X dMO_keep_330 ?_
        refine g_sub (L' := [(0, .ref (base + 41)), (1, .int x10)]) [1, 0] rfl ?_
        exact ih x10 M9 h
  have r_209 : ∀ (n : Nat) (v1 : Int32) (M : gMem), wl_MO_keep_209 post n v1 M → GMx D ta base p l e 0 0 s m [.ref (base + 41)] below meth c (gPv post) 2 209 [(0, .ref (base + 41)), (1, .int v1)] [] M := by
    intro n
    induction n with
    | zero => exact fun _ M h => h.elim
    | succ n ih =>
      intro v1 M h
      refine g_iload_n X dMO_keep_209 rfl 1 rfl ?_
      refine g_sipush X (v := (1600 : Int32)) dMO_keep_210 (by decide) ?_
      refine g_icmp_ge X dMO_keep_213 (fun c => ?_) (fun c => ?_)
      · have h := h.1 c
        refine g_iconst X (v := (0 : Int32)) dMO_keep_238 (by decide) ?_
        refine g_istore_n X (L' := [(1, .int (0 : Int32)), (0, .ref (base + 41))]) dMO_keep_239 rfl (Nat.le_of_ble_eq_true rfl) rfl ?_
        refine g_sub (L' := [(0, .ref (base + 41)), (1, .int (0 : Int32))]) [1, 0] rfl ?_
        obtain ⟨n9, h⟩ := h
        exact r_240 n9 (0 : Int32) M h
      · have h := h.2 c
        refine g_aload_n X dMO_keep_216 rfl 0 rfl ?_
        refine g_getr X hK.1 fw_MO_43 ly_41 rfl dMO_keep_217 ?_
        refine g_iload_n X dMO_keep_220 rfl 1 rfl ?_
        refine g_aload_n X dMO_keep_221 rfl 0 rfl ?_
        refine g_getr X hK.1 fw_MO_43 ly_41 rfl dMO_keep_222 ?_
        refine g_sipush X (v := (1600 : Int32)) dMO_keep_225 (by decide) ?_
        refine g_iload_n X dMO_keep_228 rfl 1 rfl ?_
        refine g_iadd X dMO_keep_229 ?_
        obtain ⟨hi, h⟩ := h
        refine g_iald X hK.1 ly_53 hi dMO_keep_230 ?_
        obtain ⟨hi, h⟩ := h
        refine g_iast X hK.1 ly_53 hi dMO_keep_231 ?_
        refine g_topM (fun M11 eM11 => ?_)
        have h := h M11 eM11
        obtain ⟨x12, ex12⟩ : ∃ z : Int32, z = v1 + (1 : Int32) := ⟨_, rfl⟩
        have h := h x12 ex12
        refine g_iinc X (L' := [(1, .int x12), (0, .ref (base + 41))]) (k := 1) dMO_keep_232 rfl (v := x12) (by rw [ex12]; rfl) (Nat.le_of_ble_eq_true rfl) rfl ?_
        refine g_goto X dMO_keep_235 ?_
        refine g_sub (L' := [(0, .ref (base + 41)), (1, .int x12)]) [1, 0] rfl ?_
        exact ih x12 M11 h
  have r_105 : ∀ (n : Nat) (v1 : Int32) (M : gMem), wl_MO_keep_105 post n v1 M → GMx D ta base p l e 0 0 s m [.ref (base + 41)] below meth c (gPv post) 2 105 [(0, .ref (base + 41)), (1, .int v1)] [] M := by
    intro n
    induction n with
    | zero => exact fun _ M h => h.elim
    | succ n ih =>
      intro v1 M h
      refine g_iload_n X dMO_keep_105 rfl 1 rfl ?_
      refine g_bipush X (v := (100 : Int32)) dMO_keep_106 (by decide) ?_
      refine g_icmp_ge X dMO_keep_108 (fun c => ?_) (fun c => ?_)
      · have h := h.1 c
        refine g_iconst X (v := (0 : Int32)) dMO_keep_207 (by decide) ?_
        refine g_istore_n X (L' := [(1, .int (0 : Int32)), (0, .ref (base + 41))]) dMO_keep_208 rfl (Nat.le_of_ble_eq_true rfl) rfl ?_
        refine g_sub (L' := [(0, .ref (base + 41)), (1, .int (0 : Int32))]) [1, 0] rfl ?_
        obtain ⟨n9, h⟩ := h
        exact r_209 n9 (0 : Int32) M h
      · have h := h.2 c
        refine g_aload_n X dMO_keep_111 rfl 0 rfl ?_
        refine g_getr X hK.1 fw_MO_25 ly_41 rfl dMO_keep_112 ?_
        refine g_iload_n X dMO_keep_115 rfl 1 rfl ?_
        refine g_aload_n X dMO_keep_116 rfl 0 rfl ?_
        refine g_getr X hK.1 fw_MO_25 ly_41 rfl dMO_keep_117 ?_
        refine g_bipush X (v := (100 : Int32)) dMO_keep_120 (by decide) ?_
        refine g_iload_n X dMO_keep_122 rfl 1 rfl ?_
        refine g_iadd X dMO_keep_123 ?_
        obtain ⟨hi, h⟩ := h
        refine g_iald X hK.1 ly_47 hi dMO_keep_124 ?_
        obtain ⟨hi, h⟩ := h
        refine g_iast X hK.1 ly_47 hi dMO_keep_125 ?_
        refine g_topM (fun M13 eM13 => ?_)
        have h := h M13 eM13
        refine g_aload_n X dMO_keep_126 rfl 0 rfl ?_
        refine g_getr X hK.1 fw_MO_28 ly_41 rfl dMO_keep_127 ?_
        refine g_iload_n X dMO_keep_130 rfl 1 rfl ?_
        refine g_aload_n X dMO_keep_131 rfl 0 rfl ?_
        refine g_getr X hK.1 fw_MO_28 ly_41 rfl dMO_keep_132 ?_
        refine g_bipush X (v := (100 : Int32)) dMO_keep_135 (by decide) ?_
        refine g_iload_n X dMO_keep_137 rfl 1 rfl ?_
        refine g_iadd X dMO_keep_138 ?_
        obtain ⟨hi, h⟩ := h
        refine g_iald X hK.1 ly_48 hi dMO_keep_139 ?_
        obtain ⟨hi, h⟩ := h
        refine g_iast X hK.1 ly_48 hi dMO_keep_140 ?_
        refine g_topM (fun M14 eM14 => ?_)
        have h := h M14 eM14
        refine g_aload_n X dMO_keep_141 rfl 0 rfl ?_
        refine g_getr X hK.1 fw_MO_31 ly_41 rfl dMO_keep_142 ?_
        refine g_iload_n X dMO_keep_145 rfl 1 rfl ?_
        refine g_aload_n X dMO_keep_146 rfl 0 rfl ?_
        refine g_getr X hK.1 fw_MO_31 ly_41 rfl dMO_keep_147 ?_
        refine g_bipush X (v := (100 : Int32)) dMO_keep_150 (by decide) ?_
        refine g_iload_n X dMO_keep_152 rfl 1 rfl ?_
        refine g_iadd X dMO_keep_153 ?_
        obtain ⟨hi, h⟩ := h
        refine g_iald X hK.1 ly_49 hi dMO_keep_154 ?_
        obtain ⟨hi, h⟩ := h
        refine g_iast X hK.1 ly_49 hi dMO_keep_155 ?_
        refine g_topM (fun M15 eM15 => ?_)
        have h := h M15 eM15
        refine g_aload_n X dMO_keep_156 rfl 0 rfl ?_
        refine g_getr X hK.1 fw_MO_34 ly_41 rfl dMO_keep_157 ?_
        refine g_iload_n X dMO_keep_160 rfl 1 rfl ?_
        refine g_aload_n X dMO_keep_161 rfl 0 rfl ?_
        refine g_getr X hK.1 fw_MO_34 ly_41 rfl dMO_keep_162 ?_
        refine g_bipush X (v := (100 : Int32)) dMO_keep_165 (by decide) ?_
        refine g_iload_n X dMO_keep_167 rfl 1 rfl ?_
        refine g_iadd X dMO_keep_168 ?_
        obtain ⟨hi, h⟩ := h
        refine g_iald X hK.1 ly_50 hi dMO_keep_169 ?_
        obtain ⟨hi, h⟩ := h
        refine g_iast X hK.1 ly_50 hi dMO_keep_170 ?_
        refine g_topM (fun M16 eM16 => ?_)
        have h := h M16 eM16
        refine g_aload_n X dMO_keep_171 rfl 0 rfl ?_
        refine g_getr X hK.1 fw_MO_37 ly_41 rfl dMO_keep_172 ?_
        refine g_iload_n X dMO_keep_175 rfl 1 rfl ?_
        refine g_aload_n X dMO_keep_176 rfl 0 rfl ?_
        refine g_getr X hK.1 fw_MO_37 ly_41 rfl dMO_keep_177 ?_
        refine g_bipush X (v := (100 : Int32)) dMO_keep_180 (by decide) ?_
        refine g_iload_n X dMO_keep_182 rfl 1 rfl ?_
        refine g_iadd X dMO_keep_183 ?_
        obtain ⟨hi, h⟩ := h
        refine g_iald X hK.1 ly_51 hi dMO_keep_184 ?_
        obtain ⟨hi, h⟩ := h
        refine g_iast X hK.1 ly_51 hi dMO_keep_185 ?_
        refine g_topM (fun M17 eM17 => ?_)
        have h := h M17 eM17
        refine g_aload_n X dMO_keep_186 rfl 0 rfl ?_
        refine g_getr X hK.1 fw_MO_40 ly_41 rfl dMO_keep_187 ?_
        refine g_iload_n X dMO_keep_190 rfl 1 rfl ?_
        refine g_aload_n X dMO_keep_191 rfl 0 rfl ?_
        refine g_getr X hK.1 fw_MO_40 ly_41 rfl dMO_keep_192 ?_
        refine g_bipush X (v := (100 : Int32)) dMO_keep_195 (by decide) ?_
        refine g_iload_n X dMO_keep_197 rfl 1 rfl ?_
        refine g_iadd X dMO_keep_198 ?_
        obtain ⟨hi, h⟩ := h
        refine g_iald X hK.1 ly_52 hi dMO_keep_199 ?_
        obtain ⟨hi, h⟩ := h
        refine g_iast X hK.1 ly_52 hi dMO_keep_200 ?_
        refine g_topM (fun M18 eM18 => ?_)
        have h := h M18 eM18
        obtain ⟨x19, ex19⟩ : ∃ z : Int32, z = v1 + (1 : Int32) := ⟨_, rfl⟩
        have h := h x19 ex19
        refine g_iinc X (L' := [(1, .int x19), (0, .ref (base + 41))]) (k := 1) dMO_keep_201 rfl (v := x19) (by rw [ex19]; rfl) (Nat.le_of_ble_eq_true rfl) rfl ?_
        refine g_goto X dMO_keep_204 ?_
        refine g_sub (L' := [(0, .ref (base + 41)), (1, .int x19)]) [1, 0] rfl ?_
        exact ih x19 M18 h
  have r_74 : ∀ (n : Nat) (v1 : Int32) (M : gMem), wl_MO_keep_74 post n v1 M → GMx D ta base p l e 0 0 s m [.ref (base + 41)] below meth c (gPv post) 2 74 [(0, .ref (base + 41)), (1, .int v1)] [] M := by
    intro n
    induction n with
    | zero => exact fun _ M h => h.elim
    | succ n ih =>
      intro v1 M h
      refine g_iload_n X dMO_keep_74 rfl 1 rfl ?_
      refine g_sipush X (v := (1024 : Int32)) dMO_keep_75 (by decide) ?_
      refine g_icmp_ge X dMO_keep_78 (fun c => ?_) (fun c => ?_)
      · have h := h.1 c
        refine g_iconst X (v := (0 : Int32)) dMO_keep_103 (by decide) ?_
        refine g_istore_n X (L' := [(1, .int (0 : Int32)), (0, .ref (base + 41))]) dMO_keep_104 rfl (Nat.le_of_ble_eq_true rfl) rfl ?_
        refine g_sub (L' := [(0, .ref (base + 41)), (1, .int (0 : Int32))]) [1, 0] rfl ?_
        obtain ⟨n9, h⟩ := h
        exact r_105 n9 (0 : Int32) M h
      · have h := h.2 c
        refine g_aload_n X dMO_keep_81 rfl 0 rfl ?_
        refine g_getr X hK.1 fw_MO_19 ly_41 rfl dMO_keep_82 ?_
        refine g_iload_n X dMO_keep_85 rfl 1 rfl ?_
        refine g_aload_n X dMO_keep_86 rfl 0 rfl ?_
        refine g_getr X hK.1 fw_MO_19 ly_41 rfl dMO_keep_87 ?_
        refine g_sipush X (v := (1024 : Int32)) dMO_keep_90 (by decide) ?_
        refine g_iload_n X dMO_keep_93 rfl 1 rfl ?_
        refine g_iadd X dMO_keep_94 ?_
        obtain ⟨hi, h⟩ := h
        refine g_iald X hK.1 ly_45 hi dMO_keep_95 ?_
        obtain ⟨hi, h⟩ := h
        refine g_iast X hK.1 ly_45 hi dMO_keep_96 ?_
        refine g_topM (fun M20 eM20 => ?_)
        have h := h M20 eM20
        obtain ⟨x21, ex21⟩ : ∃ z : Int32, z = v1 + (1 : Int32) := ⟨_, rfl⟩
        have h := h x21 ex21
        refine g_iinc X (L' := [(1, .int x21), (0, .ref (base + 41))]) (k := 1) dMO_keep_97 rfl (v := x21) (by rw [ex21]; rfl) (Nat.le_of_ble_eq_true rfl) rfl ?_
        refine g_goto X dMO_keep_100 ?_
        refine g_sub (L' := [(0, .ref (base + 41)), (1, .int x21)]) [1, 0] rfl ?_
        exact ih x21 M20 h
  have r_33 : ∀ (n : Nat) (v1 : Int32) (M : gMem), wl_MO_keep_33 post n v1 M → GMx D ta base p l e 0 0 s m [.ref (base + 41)] below meth c (gPv post) 2 33 [(0, .ref (base + 41)), (1, .int v1)] [] M := by
    intro n
    induction n with
    | zero => exact fun _ M h => h.elim
    | succ n ih =>
      intro v1 M h
      refine g_iload_n X dMO_keep_33 rfl 1 rfl ?_
      refine g_iconst X (v := (4 : Int32)) dMO_keep_34 (by decide) ?_
      refine g_icmp_ge X dMO_keep_35 (fun c => ?_) (fun c => ?_)
      · have h := h.1 c
        refine g_iconst X (v := (0 : Int32)) dMO_keep_72 (by decide) ?_
        refine g_istore_n X (L' := [(1, .int (0 : Int32)), (0, .ref (base + 41))]) dMO_keep_73 rfl (Nat.le_of_ble_eq_true rfl) rfl ?_
        refine g_sub (L' := [(0, .ref (base + 41)), (1, .int (0 : Int32))]) [1, 0] rfl ?_
        obtain ⟨n9, h⟩ := h
        exact r_74 n9 (0 : Int32) M h
      · have h := h.2 c
        refine g_aload_n X dMO_keep_38 rfl 0 rfl ?_
        refine g_getr X hK.1 fw_MO_13 ly_41 rfl dMO_keep_39 ?_
        refine g_iload_n X dMO_keep_42 rfl 1 rfl ?_
        refine g_aload_n X dMO_keep_43 rfl 0 rfl ?_
        refine g_getr X hK.1 fw_MO_13 ly_41 rfl dMO_keep_44 ?_
        refine g_iconst X (v := (4 : Int32)) dMO_keep_47 (by decide) ?_
        refine g_iload_n X dMO_keep_48 rfl 1 rfl ?_
        refine g_iadd X dMO_keep_49 ?_
        obtain ⟨hi, h⟩ := h
        refine g_iald X hK.1 ly_43 hi dMO_keep_50 ?_
        obtain ⟨hi, h⟩ := h
        refine g_iast X hK.1 ly_43 hi dMO_keep_51 ?_
        refine g_topM (fun M22 eM22 => ?_)
        have h := h M22 eM22
        refine g_aload_n X dMO_keep_52 rfl 0 rfl ?_
        refine g_getr X hK.1 fw_MO_16 ly_41 rfl dMO_keep_53 ?_
        refine g_iload_n X dMO_keep_56 rfl 1 rfl ?_
        refine g_aload_n X dMO_keep_57 rfl 0 rfl ?_
        refine g_getr X hK.1 fw_MO_16 ly_41 rfl dMO_keep_58 ?_
        refine g_iconst X (v := (4 : Int32)) dMO_keep_61 (by decide) ?_
        refine g_iload_n X dMO_keep_62 rfl 1 rfl ?_
        refine g_iadd X dMO_keep_63 ?_
        obtain ⟨hi, h⟩ := h
        refine g_iald X hK.1 ly_44 hi dMO_keep_64 ?_
        obtain ⟨hi, h⟩ := h
        refine g_iast X hK.1 ly_44 hi dMO_keep_65 ?_
        refine g_topM (fun M23 eM23 => ?_)
        have h := h M23 eM23
        obtain ⟨x24, ex24⟩ : ∃ z : Int32, z = v1 + (1 : Int32) := ⟨_, rfl⟩
        have h := h x24 ex24
        refine g_iinc X (L' := [(1, .int x24), (0, .ref (base + 41))]) (k := 1) dMO_keep_66 rfl (v := x24) (by rw [ex24]; rfl) (Nat.le_of_ble_eq_true rfl) rfl ?_
        refine g_goto X dMO_keep_69 ?_
        refine g_sub (L' := [(0, .ref (base + 41)), (1, .int x24)]) [1, 0] rfl ?_
        exact ih x24 M23 h
  have r_2 : ∀ (n : Nat) (v1 : Int32) (M : gMem), wl_MO_keep_2 post n v1 M → GMx D ta base p l e 0 0 s m [.ref (base + 41)] below meth c (gPv post) 2 2 [(0, .ref (base + 41)), (1, .int v1)] [] M := by
    intro n
    induction n with
    | zero => exact fun _ M h => h.elim
    | succ n ih =>
      intro v1 M h
      refine g_iload_n X dMO_keep_2 rfl 1 rfl ?_
      refine g_sipush X (v := (6144 : Int32)) dMO_keep_3 (by decide) ?_
      refine g_icmp_ge X dMO_keep_6 (fun c => ?_) (fun c => ?_)
      · have h := h.1 c
        refine g_iconst X (v := (0 : Int32)) dMO_keep_31 (by decide) ?_
        refine g_istore_n X (L' := [(1, .int (0 : Int32)), (0, .ref (base + 41))]) dMO_keep_32 rfl (Nat.le_of_ble_eq_true rfl) rfl ?_
        refine g_sub (L' := [(0, .ref (base + 41)), (1, .int (0 : Int32))]) [1, 0] rfl ?_
        obtain ⟨n9, h⟩ := h
        exact r_33 n9 (0 : Int32) M h
      · have h := h.2 c
        refine g_aload_n X dMO_keep_9 rfl 0 rfl ?_
        refine g_getr X hK.1 fw_MO_7 ly_41 rfl dMO_keep_10 ?_
        refine g_iload_n X dMO_keep_13 rfl 1 rfl ?_
        refine g_aload_n X dMO_keep_14 rfl 0 rfl ?_
        refine g_getr X hK.1 fw_MO_7 ly_41 rfl dMO_keep_15 ?_
        refine g_sipush X (v := (6144 : Int32)) dMO_keep_18 (by decide) ?_
        refine g_iload_n X dMO_keep_21 rfl 1 rfl ?_
        refine g_iadd X dMO_keep_22 ?_
        obtain ⟨hi, h⟩ := h
        refine g_iald X hK.1 ly_42 hi dMO_keep_23 ?_
        obtain ⟨hi, h⟩ := h
        refine g_iast X hK.1 ly_42 hi dMO_keep_24 ?_
        refine g_topM (fun M25 eM25 => ?_)
        have h := h M25 eM25
        obtain ⟨x26, ex26⟩ : ∃ z : Int32, z = v1 + (1 : Int32) := ⟨_, rfl⟩
        have h := h x26 ex26
        refine g_iinc X (L' := [(1, .int x26), (0, .ref (base + 41))]) (k := 1) dMO_keep_25 rfl (v := x26) (by rw [ex26]; rfl) (Nat.le_of_ble_eq_true rfl) rfl ?_
        refine g_goto X dMO_keep_28 ?_
        refine g_sub (L' := [(0, .ref (base + 41)), (1, .int x26)]) [1, 0] rfl ?_
        exact ih x26 M25 h
  refine g_args (L' := [(0, .ref (base + 41))]) rfl ?_
  unfold wp_MO_keep at h
  refine g_iconst X (v := (0 : Int32)) dMO_keep_0 (by decide) ?_
  refine g_istore_n X (L' := [(1, .int (0 : Int32)), (0, .ref (base + 41))]) dMO_keep_1 rfl (Nat.le_of_ble_eq_true rfl) rfl ?_
  refine g_sub (L' := [(0, .ref (base + 41)), (1, .int (0 : Int32))]) [1, 0] rfl ?_
  obtain ⟨n9, h⟩ := h
  exact r_2 n9 (0 : Int32) M h
set_option maxRecDepth 100000 in
set_option maxHeartbeats 4000000 in
theorem m_MO_section {l : Launch} {D : va_G} {ta : Nat → ClassId} {base : Nat} {sa : Nat → Nat} {post : Int32 → gMem → Prop} {a0 : Int32} {a1 : Int32} {M : gMem} (h : wp_MO_section post a0 a1 M) : GC gLay gCl D ta base gNw sa gTabs gTs l y_MO_section b_MO_section 3 (some .int) 0 0 [.ref (base + 41), .int a0, .int a1] M (gPi post) := by
  refine GC.of (own := "ObjectFileModel") pn_MO rfl (Nat.le_of_ble_eq_true rfl) ?_
  intro p e s m below meth c X hK hr hlk
  refine g_args (L' := [(0, .ref (base + 41)), (1, .int a0), (2, .int a1)]) rfl ?_
  unfold wp_MO_section at h
  refine g_iload_n X dMO_section_0 rfl 1 rfl ?_
  refine g_if_lt X dMO_section_1 (fun c => ?_) (fun c => ?_)
  · have h := h.1 c
    refine g_iconst X (v := (-1 : Int32)) dMO_section_9 (by decide) ?_
    exact g_iret X hr hlk dMO_section_10 ⟨_, rfl, h⟩
  · have h := h.2 c
    refine g_iload_n X dMO_section_4 rfl 1 rfl ?_
    refine g_iconst X (v := (3 : Int32)) dMO_section_5 (by decide) ?_
    refine g_icmp_le X dMO_section_6 (fun c => ?_) (fun c => ?_)
    · have h := h.1 c
      refine g_iload_n X dMO_section_11 rfl 2 rfl ?_
      refine g_if_ne X dMO_section_12 (fun c => ?_) (fun c => ?_)
      · have h := h.1 c
        refine g_iload_n X dMO_section_26 rfl 2 rfl ?_
        refine g_iconst X (v := (1 : Int32)) dMO_section_27 (by decide) ?_
        refine g_icmp_ne X dMO_section_28 (fun c => ?_) (fun c => ?_)
        · have h := h.1 c
          refine g_iconst X (v := (-1 : Int32)) dMO_section_42 (by decide) ?_
          exact g_iret X hr hlk dMO_section_43 ⟨_, rfl, h⟩
        · have h := h.2 c
          refine g_aload_n X dMO_section_31 rfl 0 rfl ?_
          refine g_getr X hK.1 fw_MO_16 ly_41 rfl dMO_section_32 ?_
          refine g_iconst X (v := (4 : Int32)) dMO_section_35 (by decide) ?_
          refine g_iload_n X dMO_section_36 rfl 1 rfl ?_
          refine g_iadd X dMO_section_37 ?_
          obtain ⟨hi, h⟩ := h
          refine g_iald X hK.1 ly_44 hi dMO_section_38 ?_
          refine g_goto X dMO_section_39 ?_
          exact g_iret X hr hlk dMO_section_43 ⟨_, rfl, h⟩
      · have h := h.2 c
        refine g_aload_n X dMO_section_15 rfl 0 rfl ?_
        refine g_getr X hK.1 fw_MO_13 ly_41 rfl dMO_section_16 ?_
        refine g_iconst X (v := (4 : Int32)) dMO_section_19 (by decide) ?_
        refine g_iload_n X dMO_section_20 rfl 1 rfl ?_
        refine g_iadd X dMO_section_21 ?_
        obtain ⟨hi, h⟩ := h
        refine g_iald X hK.1 ly_43 hi dMO_section_22 ?_
        refine g_goto X dMO_section_23 ?_
        exact g_iret X hr hlk dMO_section_43 ⟨_, rfl, h⟩
    · have h := h.2 c
      refine g_iconst X (v := (-1 : Int32)) dMO_section_9 (by decide) ?_
      exact g_iret X hr hlk dMO_section_10 ⟨_, rfl, h⟩
set_option maxRecDepth 100000 in
set_option maxHeartbeats 4000000 in
theorem m_MO_at {l : Launch} {D : va_G} {ta : Nat → ClassId} {base : Nat} {sa : Nat → Nat} {post : Int32 → gMem → Prop} {a0 : Int32} {a1 : Int32} {M : gMem} (h : wp_MO_at post a0 a1 M) : GC gLay gCl D ta base gNw sa gTabs gTs l y_MO_at b_MO_at 3 (some .int) 0 0 [.ref (base + 41), .int a0, .int a1] M (gPi post) := by
  refine GC.of (own := "ObjectFileModel") pn_MO rfl (Nat.le_of_ble_eq_true rfl) ?_
  intro p e s m below meth c X hK hr hlk
  refine g_args (L' := [(0, .ref (base + 41)), (1, .int a0), (2, .int a1)]) rfl ?_
  unfold wp_MO_at at h
  refine g_iload_n X dMO_at_0 rfl 1 rfl ?_
  refine g_if_lt X dMO_at_1 (fun c => ?_) (fun c => ?_)
  · have h := h.1 c
    refine g_iconst X (v := (-1 : Int32)) dMO_at_44 (by decide) ?_
    exact g_iret X hr hlk dMO_at_45 ⟨_, rfl, h⟩
  · have h := h.2 c
    refine g_iload_n X dMO_at_4 rfl 1 rfl ?_
    refine g_iconst X (v := (3 : Int32)) dMO_at_5 (by decide) ?_
    refine g_icmp_ge X dMO_at_6 (fun c => ?_) (fun c => ?_)
    · have h := h.1 c
      refine g_iconst X (v := (-1 : Int32)) dMO_at_44 (by decide) ?_
      exact g_iret X hr hlk dMO_at_45 ⟨_, rfl, h⟩
    · have h := h.2 c
      refine g_iload_n X dMO_at_9 rfl 2 rfl ?_
      refine g_if_lt X dMO_at_10 (fun c => ?_) (fun c => ?_)
      · have h := h.1 c
        refine g_iconst X (v := (-1 : Int32)) dMO_at_44 (by decide) ?_
        exact g_iret X hr hlk dMO_at_45 ⟨_, rfl, h⟩
      · have h := h.2 c
        refine g_iload_n X dMO_at_13 rfl 2 rfl ?_
        refine g_aload_n X dMO_at_14 rfl 0 rfl ?_
        refine g_getr X hK.1 fw_MO_13 ly_41 rfl dMO_at_15 ?_
        refine g_iconst X (v := (4 : Int32)) dMO_at_18 (by decide) ?_
        refine g_iload_n X dMO_at_19 rfl 1 rfl ?_
        refine g_iadd X dMO_at_20 ?_
        obtain ⟨hi, h⟩ := h
        refine g_iald X hK.1 ly_43 hi dMO_at_21 ?_
        refine g_icmp_ge X dMO_at_22 (fun c => ?_) (fun c => ?_)
        · have h := h.1 c
          refine g_iconst X (v := (-1 : Int32)) dMO_at_44 (by decide) ?_
          exact g_iret X hr hlk dMO_at_45 ⟨_, rfl, h⟩
        · have h := h.2 c
          refine g_aload_n X dMO_at_25 rfl 0 rfl ?_
          refine g_getr X hK.1 fw_MO_7 ly_41 rfl dMO_at_26 ?_
          refine g_sipush X (v := (6144 : Int32)) dMO_at_29 (by decide) ?_
          refine g_sipush X (v := (2048 : Int32)) dMO_at_32 (by decide) ?_
          refine g_iload_n X dMO_at_35 rfl 1 rfl ?_
          refine g_imul X dMO_at_36 ?_
          refine g_iadd X dMO_at_37 ?_
          refine g_iload_n X dMO_at_38 rfl 2 rfl ?_
          refine g_iadd X dMO_at_39 ?_
          obtain ⟨hi, h⟩ := h
          refine g_iald X hK.1 ly_42 hi dMO_at_40 ?_
          refine g_goto X dMO_at_41 ?_
          exact g_iret X hr hlk dMO_at_45 ⟨_, rfl, h⟩
set_option maxRecDepth 100000 in
set_option maxHeartbeats 4000000 in
theorem m_MO_count {l : Launch} {D : va_G} {ta : Nat → ClassId} {base : Nat} {sa : Nat → Nat} {post : Int32 → gMem → Prop} {a0 : Int32} {M : gMem} (h : wp_MO_count post a0 M) : GC gLay gCl D ta base gNw sa gTabs gTs l y_MO_count b_MO_count 4 (some .int) 1 20 [.ref (base + 41), .int a0] M (gPi post) := by
  refine GC.of (own := "ObjectFileModel") pn_MO rfl (Nat.le_of_ble_eq_true rfl) ?_
  intro p e s m below meth c X hK hr hlk
  have r_4 : ∀ (n : Nat) (v1 : Int32) (v2 : Int32) (v3 : Int32) (M : gMem), wl_MO_count_4 post n v1 v2 v3 M → GMx D ta base p l e 1 20 s m [.ref (base + 41), .int a0] below meth c (gPi post) 4 4 [(0, .ref (base + 41)), (1, .int v1), (2, .int v2), (3, .int v3)] [] M := by
    intro n
    induction n with
    | zero => exact fun _ _ _ M h => h.elim
    | succ n ih =>
      intro v1 v2 v3 M h
      refine g_iload_n X dMO_count_4 rfl 3 rfl ?_
      refine g_aload_n X dMO_count_5 rfl 0 rfl ?_
      refine g_getr X hK.1 fw_MO_22 ly_41 rfl dMO_count_6 ?_
      refine g_iconst X (v := (1 : Int32)) dMO_count_9 (by decide) ?_
      obtain ⟨hi, h⟩ := h
      refine g_iald X hK.1 ly_46 hi dMO_count_10 ?_
      refine g_icmp_ge X dMO_count_11 (fun c => ?_) (fun c => ?_)
      · have h := h.1 c
        refine g_iload_n X dMO_count_53 rfl 1 rfl ?_
        refine g_if_ne X dMO_count_54 (fun c => ?_) (fun c => ?_)
        · have h := h.1 c
          refine g_iload_n X dMO_count_66 rfl 1 rfl ?_
          refine g_iconst X (v := (1 : Int32)) dMO_count_67 (by decide) ?_
          refine g_icmp_ne X dMO_count_68 (fun c => ?_) (fun c => ?_)
          · have h := h.1 c
            refine g_iload_n X dMO_count_80 rfl 1 rfl ?_
            refine g_iconst X (v := (2 : Int32)) dMO_count_81 (by decide) ?_
            refine g_icmp_ne X dMO_count_82 (fun c => ?_) (fun c => ?_)
            · have h := h.1 c
              refine g_iload_n X dMO_count_94 rfl 1 rfl ?_
              refine g_iconst X (v := (3 : Int32)) dMO_count_95 (by decide) ?_
              refine g_icmp_ne X dMO_count_96 (fun c => ?_) (fun c => ?_)
              · have h := h.1 c
                refine g_iconst X (v := (-1 : Int32)) dMO_count_103 (by decide) ?_
                exact g_iret X hr hlk dMO_count_104 ⟨_, rfl, h⟩
              · have h := h.2 c
                refine g_iload_n X dMO_count_99 rfl 2 rfl ?_
                refine g_goto X dMO_count_100 ?_
                exact g_iret X hr hlk dMO_count_104 ⟨_, rfl, h⟩
            · have h := h.2 c
              refine g_aload_n X dMO_count_85 rfl 0 rfl ?_
              refine g_getr X hK.1 fw_MO_64 ly_41 rfl dMO_count_86 ?_
              refine g_iconst X (v := (1 : Int32)) dMO_count_89 (by decide) ?_
              obtain ⟨hi, h⟩ := h
              refine g_iald X hK.1 ly_60 hi dMO_count_90 ?_
              refine g_goto X dMO_count_91 ?_
              exact g_iret X hr hlk dMO_count_104 ⟨_, rfl, h⟩
          · have h := h.2 c
            refine g_aload_n X dMO_count_71 rfl 0 rfl ?_
            refine g_getr X hK.1 fw_MO_46 ly_41 rfl dMO_count_72 ?_
            refine g_iconst X (v := (1 : Int32)) dMO_count_75 (by decide) ?_
            obtain ⟨hi, h⟩ := h
            refine g_iald X hK.1 ly_54 hi dMO_count_76 ?_
            refine g_goto X dMO_count_77 ?_
            exact g_iret X hr hlk dMO_count_104 ⟨_, rfl, h⟩
        · have h := h.2 c
          refine g_aload_n X dMO_count_57 rfl 0 rfl ?_
          refine g_getr X hK.1 fw_MO_22 ly_41 rfl dMO_count_58 ?_
          refine g_iconst X (v := (1 : Int32)) dMO_count_61 (by decide) ?_
          obtain ⟨hi, h⟩ := h
          refine g_iald X hK.1 ly_46 hi dMO_count_62 ?_
          refine g_goto X dMO_count_63 ?_
          exact g_iret X hr hlk dMO_count_104 ⟨_, rfl, h⟩
      · have h := h.2 c
        refine g_iload_n X dMO_count_14 rfl 2 rfl ?_
        refine g_aload_n X dMO_count_15 rfl 0 rfl ?_
        refine g_getr X hK.1 fw_MO_7 ly_41 rfl dMO_count_16 ?_
        refine g_sipush X (v := (6144 : Int32)) dMO_count_19 (by decide) ?_
        refine g_aload_n X dMO_count_22 rfl 0 rfl ?_
        refine g_getr X hK.1 fw_MO_19 ly_41 rfl dMO_count_23 ?_
        refine g_sipush X (v := (1024 : Int32)) dMO_count_26 (by decide) ?_
        refine g_iload_n X dMO_count_29 rfl 3 rfl ?_
        refine g_iadd X dMO_count_30 ?_
        obtain ⟨hi, h⟩ := h
        refine g_iald X hK.1 ly_45 hi dMO_count_31 ?_
        refine g_iadd X dMO_count_32 ?_
        obtain ⟨hi, h⟩ := h
        refine g_iald X hK.1 ly_42 hi dMO_count_33 ?_
        refine g_callS X hK gTs_ok mw_MO_isShort tw_1185 mt_MO_isShort (As := [.int (M 42 ((6144 : Int32) + (M 45 ((1024 : Int32) + v3).toNatClampNeg)).toNatClampNeg)]) rfl ⟨(Nat.le_of_ble_eq_true rfl), (Nat.le_of_ble_eq_true rfl), Nat.le_refl _, Nat.le_refl _⟩ (m_MO_isShort h) (rest := [.int v2]) rfl (Nat.le_of_ble_eq_true rfl) dMO_count_34 (gk_z (fun r1 M2 h => ?_))
        refine g_if_eq X dMO_count_37 (fun c => ?_) (fun c => ?_)
        · have h := h.1 c
          refine g_iconst X (v := (0 : Int32)) dMO_count_44 (by decide) ?_
          refine g_iadd X dMO_count_45 ?_
          refine g_topi (fun x3 ex3 => ?_)
          have h := h x3 ex3
          refine g_istore_n X (L' := [(2, .int x3), (0, .ref (base + 41)), (1, .int v1), (3, .int v3)]) dMO_count_46 rfl (Nat.le_of_ble_eq_true rfl) rfl ?_
          obtain ⟨x4, ex4⟩ : ∃ z : Int32, z = v3 + (1 : Int32) := ⟨_, rfl⟩
          have h := h x4 ex4
          refine g_iinc X (L' := [(3, .int x4), (2, .int x3), (0, .ref (base + 41)), (1, .int v1)]) (k := 3) dMO_count_47 rfl (v := x4) (by rw [ex4]; rfl) (Nat.le_of_ble_eq_true rfl) rfl ?_
          refine g_goto X dMO_count_50 ?_
          refine g_sub (L' := [(0, .ref (base + 41)), (1, .int v1), (2, .int x3), (3, .int x4)]) [2, 3, 1, 0] rfl ?_
          exact ih v1 x3 x4 M2 h
        · have h := h.2 c
          refine g_iconst X (v := (1 : Int32)) dMO_count_40 (by decide) ?_
          refine g_goto X dMO_count_41 ?_
          refine g_iadd X dMO_count_45 ?_
          refine g_topi (fun x5 ex5 => ?_)
          have h := h x5 ex5
          refine g_istore_n X (L' := [(2, .int x5), (0, .ref (base + 41)), (1, .int v1), (3, .int v3)]) dMO_count_46 rfl (Nat.le_of_ble_eq_true rfl) rfl ?_
          obtain ⟨x6, ex6⟩ : ∃ z : Int32, z = v3 + (1 : Int32) := ⟨_, rfl⟩
          have h := h x6 ex6
          refine g_iinc X (L' := [(3, .int x6), (2, .int x5), (0, .ref (base + 41)), (1, .int v1)]) (k := 3) dMO_count_47 rfl (v := x6) (by rw [ex6]; rfl) (Nat.le_of_ble_eq_true rfl) rfl ?_
          refine g_goto X dMO_count_50 ?_
          refine g_sub (L' := [(0, .ref (base + 41)), (1, .int v1), (2, .int x5), (3, .int x6)]) [2, 3, 1, 0] rfl ?_
          exact ih v1 x5 x6 M2 h
  refine g_args (L' := [(0, .ref (base + 41)), (1, .int a0)]) rfl ?_
  unfold wp_MO_count at h
  refine g_iconst X (v := (0 : Int32)) dMO_count_0 (by decide) ?_
  refine g_istore_n X (L' := [(2, .int (0 : Int32)), (0, .ref (base + 41)), (1, .int a0)]) dMO_count_1 rfl (Nat.le_of_ble_eq_true rfl) rfl ?_
  refine g_iconst X (v := (0 : Int32)) dMO_count_2 (by decide) ?_
  refine g_istore_n X (L' := [(3, .int (0 : Int32)), (2, .int (0 : Int32)), (0, .ref (base + 41)), (1, .int a0)]) dMO_count_3 rfl (Nat.le_of_ble_eq_true rfl) rfl ?_
  refine g_sub (L' := [(0, .ref (base + 41)), (1, .int a0), (2, .int (0 : Int32)), (3, .int (0 : Int32))]) [2, 3, 1, 0] rfl ?_
  obtain ⟨n9, h⟩ := h
  exact r_4 n9 a0 (0 : Int32) (0 : Int32) M h
set_option maxRecDepth 100000 in
set_option maxHeartbeats 4000000 in
theorem m_MO_startAt {l : Launch} {D : va_G} {ta : Nat → ClassId} {base : Nat} {sa : Nat → Nat} {post : Int32 → gMem → Prop} {a0 : Int32} {M : gMem} (h : wp_MO_startAt post a0 M) : GC gLay gCl D ta base gNw sa gTabs gTs l y_MO_startAt b_MO_startAt 2 (some .int) 0 0 [.ref (base + 41), .int a0] M (gPi post) := by
  refine GC.of (own := "ObjectFileModel") pn_MO rfl (Nat.le_of_ble_eq_true rfl) ?_
  intro p e s m below meth c X hK hr hlk
  refine g_args (L' := [(0, .ref (base + 41)), (1, .int a0)]) rfl ?_
  unfold wp_MO_startAt at h
  refine g_iload_n X dMO_startAt_0 rfl 1 rfl ?_
  refine g_if_lt X dMO_startAt_1 (fun c => ?_) (fun c => ?_)
  · have h := h.1 c
    refine g_iconst X (v := (-1 : Int32)) dMO_startAt_27 (by decide) ?_
    exact g_iret X hr hlk dMO_startAt_28 ⟨_, rfl, h⟩
  · have h := h.2 c
    refine g_iload_n X dMO_startAt_4 rfl 1 rfl ?_
    refine g_aload_n X dMO_startAt_5 rfl 0 rfl ?_
    refine g_getr X hK.1 fw_MO_22 ly_41 rfl dMO_startAt_6 ?_
    refine g_iconst X (v := (1 : Int32)) dMO_startAt_9 (by decide) ?_
    obtain ⟨hi, h⟩ := h
    refine g_iald X hK.1 ly_46 hi dMO_startAt_10 ?_
    refine g_icmp_ge X dMO_startAt_11 (fun c => ?_) (fun c => ?_)
    · have h := h.1 c
      refine g_iconst X (v := (-1 : Int32)) dMO_startAt_27 (by decide) ?_
      exact g_iret X hr hlk dMO_startAt_28 ⟨_, rfl, h⟩
    · have h := h.2 c
      refine g_aload_n X dMO_startAt_14 rfl 0 rfl ?_
      refine g_getr X hK.1 fw_MO_19 ly_41 rfl dMO_startAt_15 ?_
      refine g_sipush X (v := (1024 : Int32)) dMO_startAt_18 (by decide) ?_
      refine g_iload_n X dMO_startAt_21 rfl 1 rfl ?_
      refine g_iadd X dMO_startAt_22 ?_
      obtain ⟨hi, h⟩ := h
      refine g_iald X hK.1 ly_45 hi dMO_startAt_23 ?_
      refine g_goto X dMO_startAt_24 ?_
      exact g_iret X hr hlk dMO_startAt_28 ⟨_, rfl, h⟩
set_option maxRecDepth 100000 in
set_option maxHeartbeats 4000000 in
theorem m_MO_symbolAt {l : Launch} {D : va_G} {ta : Nat → ClassId} {base : Nat} {sa : Nat → Nat} {post : Int32 → gMem → Prop} {a0 : Int32} {a1 : Int32} {M : gMem} (h : wp_MO_symbolAt post a0 a1 M) : GC gLay gCl D ta base gNw sa gTabs gTs l y_MO_symbolAt b_MO_symbolAt 4 (some .int) 0 0 [.ref (base + 41), .int a0, .int a1] M (gPi post) := by
  refine GC.of (own := "ObjectFileModel") pn_MO rfl (Nat.le_of_ble_eq_true rfl) ?_
  intro p e s m below meth c X hK hr hlk
  refine g_args (L' := [(0, .ref (base + 41)), (1, .int a0), (2, .int a1)]) rfl ?_
  unfold wp_MO_symbolAt at h
  refine g_iload_n X dMO_symbolAt_0 rfl 1 rfl ?_
  refine g_if_lt X dMO_symbolAt_1 (fun c => ?_) (fun c => ?_)
  · have h := h.1 c
    refine g_iconst X (v := (-1 : Int32)) dMO_symbolAt_14 (by decide) ?_
    exact g_iret X hr hlk dMO_symbolAt_15 ⟨_, rfl, h⟩
  · have h := h.2 c
    refine g_iload_n X dMO_symbolAt_4 rfl 1 rfl ?_
    refine g_aload_n X dMO_symbolAt_5 rfl 0 rfl ?_
    refine g_getr X hK.1 fw_MO_46 ly_41 rfl dMO_symbolAt_6 ?_
    refine g_iconst X (v := (1 : Int32)) dMO_symbolAt_9 (by decide) ?_
    obtain ⟨hi, h⟩ := h
    refine g_iald X hK.1 ly_54 hi dMO_symbolAt_10 ?_
    refine g_icmp_lt X dMO_symbolAt_11 (fun c => ?_) (fun c => ?_)
    · have h := h.1 c
      refine g_bipush X (v := (100 : Int32)) dMO_symbolAt_16 (by decide) ?_
      refine g_iload_n X dMO_symbolAt_18 rfl 1 rfl ?_
      refine g_iadd X dMO_symbolAt_19 ?_
      refine g_topi (fun x1 ex1 => ?_)
      have h := h x1 ex1
      refine g_istore_n X (L' := [(3, .int x1), (0, .ref (base + 41)), (1, .int a0), (2, .int a1)]) dMO_symbolAt_20 rfl (Nat.le_of_ble_eq_true rfl) rfl ?_
      refine g_iload_n X dMO_symbolAt_21 rfl 3 rfl ?_
      refine g_table X (dt := 102) [((0 : Int32), 60), ((1 : Int32), 67), ((2 : Int32), 74), ((3 : Int32), 81), ((4 : Int32), 88), ((5 : Int32), 95)] dMO_symbolAt_22.1 (by decide +kernel) (by decide) (by decide) ?_
      refine gSw_cons (fun c => ?_) (fun c => ?_)
      · have h := h.1 c
        refine g_aload_n X dMO_symbolAt_60 rfl 1 rfl ?_
        refine g_getr X hK.1 fw_MO_25 ly_41 rfl dMO_symbolAt_61 ?_
        refine g_iload_n X dMO_symbolAt_64 rfl 0 rfl ?_
        obtain ⟨hi, h⟩ := h
        refine g_iald X hK.1 ly_47 hi dMO_symbolAt_65 ?_
        exact g_iret X hr hlk dMO_symbolAt_66 ⟨_, rfl, h⟩
      · have h := h.2 c
        refine gSw_cons (fun c => ?_) (fun c => ?_)
        · have h := h.1 c
          refine g_aload_n X dMO_symbolAt_67 rfl 1 rfl ?_
          refine g_getr X hK.1 fw_MO_28 ly_41 rfl dMO_symbolAt_68 ?_
          refine g_iload_n X dMO_symbolAt_71 rfl 0 rfl ?_
          obtain ⟨hi, h⟩ := h
          refine g_iald X hK.1 ly_48 hi dMO_symbolAt_72 ?_
          exact g_iret X hr hlk dMO_symbolAt_73 ⟨_, rfl, h⟩
        · have h := h.2 c
          refine gSw_cons (fun c => ?_) (fun c => ?_)
          · have h := h.1 c
            refine g_aload_n X dMO_symbolAt_74 rfl 1 rfl ?_
            refine g_getr X hK.1 fw_MO_31 ly_41 rfl dMO_symbolAt_75 ?_
            refine g_iload_n X dMO_symbolAt_78 rfl 0 rfl ?_
            obtain ⟨hi, h⟩ := h
            refine g_iald X hK.1 ly_49 hi dMO_symbolAt_79 ?_
            exact g_iret X hr hlk dMO_symbolAt_80 ⟨_, rfl, h⟩
          · have h := h.2 c
            refine gSw_cons (fun c => ?_) (fun c => ?_)
            · have h := h.1 c
              refine g_aload_n X dMO_symbolAt_81 rfl 1 rfl ?_
              refine g_getr X hK.1 fw_MO_34 ly_41 rfl dMO_symbolAt_82 ?_
              refine g_iload_n X dMO_symbolAt_85 rfl 0 rfl ?_
              obtain ⟨hi, h⟩ := h
              refine g_iald X hK.1 ly_50 hi dMO_symbolAt_86 ?_
              exact g_iret X hr hlk dMO_symbolAt_87 ⟨_, rfl, h⟩
            · have h := h.2 c
              refine gSw_cons (fun c => ?_) (fun c => ?_)
              · have h := h.1 c
                refine g_aload_n X dMO_symbolAt_88 rfl 1 rfl ?_
                refine g_getr X hK.1 fw_MO_37 ly_41 rfl dMO_symbolAt_89 ?_
                refine g_iload_n X dMO_symbolAt_92 rfl 0 rfl ?_
                obtain ⟨hi, h⟩ := h
                refine g_iald X hK.1 ly_51 hi dMO_symbolAt_93 ?_
                exact g_iret X hr hlk dMO_symbolAt_94 ⟨_, rfl, h⟩
              · have h := h.2 c
                refine gSw_cons (fun c => ?_) (fun c => ?_)
                · have h := h.1 c
                  refine g_aload_n X dMO_symbolAt_95 rfl 1 rfl ?_
                  refine g_getr X hK.1 fw_MO_40 ly_41 rfl dMO_symbolAt_96 ?_
                  refine g_iload_n X dMO_symbolAt_99 rfl 0 rfl ?_
                  obtain ⟨hi, h⟩ := h
                  refine g_iald X hK.1 ly_52 hi dMO_symbolAt_100 ?_
                  exact g_iret X hr hlk dMO_symbolAt_101 ⟨_, rfl, h⟩
                · have h := h.2 c
                  refine gSw_nil ?_
                  refine g_iload_n X dMO_symbolAt_102 rfl 3 rfl ?_
                  refine g_bipush X (v := (6 : Int32)) dMO_symbolAt_103 (by decide) ?_
                  refine g_icmp_lt X dMO_symbolAt_105 (fun c => ?_) (fun c => ?_)
                  · have h := h.1 c
                    refine g_iconst X (v := (-1 : Int32)) dMO_symbolAt_138 (by decide) ?_
                    exact g_iret X hr hlk dMO_symbolAt_139 ⟨_, rfl, h⟩
                  · have h := h.2 c
                    refine g_iload_n X dMO_symbolAt_108 rfl 3 rfl ?_
                    refine g_bipush X (v := (6 : Int32)) dMO_symbolAt_109 (by decide) ?_
                    refine g_isub X dMO_symbolAt_111 ?_
                    refine g_aload_n X dMO_symbolAt_112 rfl 1 rfl ?_
                    refine g_getr X hK.1 fw_MO_40 ly_41 rfl dMO_symbolAt_113 ?_
                    refine g_iload_n X dMO_symbolAt_116 rfl 0 rfl ?_
                    obtain ⟨hi, h⟩ := h
                    refine g_iald X hK.1 ly_52 hi dMO_symbolAt_117 ?_
                    refine g_icmp_ge X dMO_symbolAt_118 (fun c => ?_) (fun c => ?_)
                    · have h := h.1 c
                      refine g_iconst X (v := (-1 : Int32)) dMO_symbolAt_138 (by decide) ?_
                      exact g_iret X hr hlk dMO_symbolAt_139 ⟨_, rfl, h⟩
                    · have h := h.2 c
                      refine g_aload_n X dMO_symbolAt_121 rfl 1 rfl ?_
                      refine g_getr X hK.1 fw_MO_43 ly_41 rfl dMO_symbolAt_122 ?_
                      refine g_bipush X (v := (16 : Int32)) dMO_symbolAt_125 (by decide) ?_
                      refine g_iload_n X dMO_symbolAt_127 rfl 0 rfl ?_
                      refine g_imul X dMO_symbolAt_128 ?_
                      refine g_iload_n X dMO_symbolAt_129 rfl 3 rfl ?_
                      refine g_iadd X dMO_symbolAt_130 ?_
                      refine g_bipush X (v := (6 : Int32)) dMO_symbolAt_131 (by decide) ?_
                      refine g_isub X dMO_symbolAt_133 ?_
                      obtain ⟨hi, h⟩ := h
                      refine g_iald X hK.1 ly_53 hi dMO_symbolAt_134 ?_
                      refine g_goto X dMO_symbolAt_135 ?_
                      exact g_iret X hr hlk dMO_symbolAt_139 ⟨_, rfl, h⟩
    · have h := h.2 c
      refine g_iconst X (v := (-1 : Int32)) dMO_symbolAt_14 (by decide) ?_
      exact g_iret X hr hlk dMO_symbolAt_15 ⟨_, rfl, h⟩
set_option maxRecDepth 100000 in
set_option maxHeartbeats 4000000 in
theorem m_MO_relocationAt {l : Launch} {D : va_G} {ta : Nat → ClassId} {base : Nat} {sa : Nat → Nat} {post : Int32 → gMem → Prop} {a0 : Int32} {a1 : Int32} {M : gMem} (h : wp_MO_relocationAt post a0 a1 M) : GC gLay gCl D ta base gNw sa gTabs gTs l y_MO_relocationAt b_MO_relocationAt 4 (some .int) 0 0 [.ref (base + 41), .int a0, .int a1] M (gPi post) := by
  refine GC.of (own := "ObjectFileModel") pn_MO rfl (Nat.le_of_ble_eq_true rfl) ?_
  intro p e s m below meth c X hK hr hlk
  refine g_args (L' := [(0, .ref (base + 41)), (1, .int a0), (2, .int a1)]) rfl ?_
  unfold wp_MO_relocationAt at h
  refine g_iload_n X dMO_relocationAt_0 rfl 1 rfl ?_
  refine g_if_lt X dMO_relocationAt_1 (fun c => ?_) (fun c => ?_)
  · have h := h.1 c
    refine g_iconst X (v := (-1 : Int32)) dMO_relocationAt_14 (by decide) ?_
    exact g_iret X hr hlk dMO_relocationAt_15 ⟨_, rfl, h⟩
  · have h := h.2 c
    refine g_iload_n X dMO_relocationAt_4 rfl 1 rfl ?_
    refine g_aload_n X dMO_relocationAt_5 rfl 0 rfl ?_
    refine g_getr X hK.1 fw_MO_64 ly_41 rfl dMO_relocationAt_6 ?_
    refine g_iconst X (v := (1 : Int32)) dMO_relocationAt_9 (by decide) ?_
    obtain ⟨hi, h⟩ := h
    refine g_iald X hK.1 ly_60 hi dMO_relocationAt_10 ?_
    refine g_icmp_lt X dMO_relocationAt_11 (fun c => ?_) (fun c => ?_)
    · have h := h.1 c
      refine g_sipush X (v := (300 : Int32)) dMO_relocationAt_16 (by decide) ?_
      refine g_iload_n X dMO_relocationAt_19 rfl 1 rfl ?_
      refine g_iadd X dMO_relocationAt_20 ?_
      refine g_topi (fun x1 ex1 => ?_)
      have h := h x1 ex1
      refine g_istore_n X (L' := [(3, .int x1), (0, .ref (base + 41)), (1, .int a0), (2, .int a1)]) dMO_relocationAt_21 rfl (Nat.le_of_ble_eq_true rfl) rfl ?_
      refine g_iload_n X dMO_relocationAt_22 rfl 3 rfl ?_
      refine g_if_ne X dMO_relocationAt_23 (fun c => ?_) (fun c => ?_)
      · have h := h.1 c
        refine g_iload_n X dMO_relocationAt_35 rfl 3 rfl ?_
        refine g_iconst X (v := (1 : Int32)) dMO_relocationAt_36 (by decide) ?_
        refine g_icmp_ne X dMO_relocationAt_37 (fun c => ?_) (fun c => ?_)
        · have h := h.1 c
          refine g_iload_n X dMO_relocationAt_49 rfl 3 rfl ?_
          refine g_iconst X (v := (2 : Int32)) dMO_relocationAt_50 (by decide) ?_
          refine g_icmp_ne X dMO_relocationAt_51 (fun c => ?_) (fun c => ?_)
          · have h := h.1 c
            refine g_iload_n X dMO_relocationAt_63 rfl 3 rfl ?_
            refine g_iconst X (v := (3 : Int32)) dMO_relocationAt_64 (by decide) ?_
            refine g_icmp_ne X dMO_relocationAt_65 (fun c => ?_) (fun c => ?_)
            · have h := h.1 c
              refine g_iload_n X dMO_relocationAt_77 rfl 3 rfl ?_
              refine g_iconst X (v := (4 : Int32)) dMO_relocationAt_78 (by decide) ?_
              refine g_icmp_ne X dMO_relocationAt_79 (fun c => ?_) (fun c => ?_)
              · have h := h.1 c
                refine g_iconst X (v := (-1 : Int32)) dMO_relocationAt_91 (by decide) ?_
                exact g_iret X hr hlk dMO_relocationAt_92 ⟨_, rfl, h⟩
              · have h := h.2 c
                refine g_aload_n X dMO_relocationAt_82 rfl 1 rfl ?_
                refine g_getr X hK.1 fw_MO_61 ly_41 rfl dMO_relocationAt_83 ?_
                refine g_iload_n X dMO_relocationAt_86 rfl 0 rfl ?_
                obtain ⟨hi, h⟩ := h
                refine g_iald X hK.1 ly_59 hi dMO_relocationAt_87 ?_
                refine g_goto X dMO_relocationAt_88 ?_
                exact g_iret X hr hlk dMO_relocationAt_92 ⟨_, rfl, h⟩
            · have h := h.2 c
              refine g_aload_n X dMO_relocationAt_68 rfl 1 rfl ?_
              refine g_getr X hK.1 fw_MO_58 ly_41 rfl dMO_relocationAt_69 ?_
              refine g_iload_n X dMO_relocationAt_72 rfl 0 rfl ?_
              obtain ⟨hi, h⟩ := h
              refine g_iald X hK.1 ly_58 hi dMO_relocationAt_73 ?_
              refine g_goto X dMO_relocationAt_74 ?_
              exact g_iret X hr hlk dMO_relocationAt_92 ⟨_, rfl, h⟩
          · have h := h.2 c
            refine g_aload_n X dMO_relocationAt_54 rfl 1 rfl ?_
            refine g_getr X hK.1 fw_MO_55 ly_41 rfl dMO_relocationAt_55 ?_
            refine g_iload_n X dMO_relocationAt_58 rfl 0 rfl ?_
            obtain ⟨hi, h⟩ := h
            refine g_iald X hK.1 ly_57 hi dMO_relocationAt_59 ?_
            refine g_goto X dMO_relocationAt_60 ?_
            exact g_iret X hr hlk dMO_relocationAt_92 ⟨_, rfl, h⟩
        · have h := h.2 c
          refine g_aload_n X dMO_relocationAt_40 rfl 1 rfl ?_
          refine g_getr X hK.1 fw_MO_52 ly_41 rfl dMO_relocationAt_41 ?_
          refine g_iload_n X dMO_relocationAt_44 rfl 0 rfl ?_
          obtain ⟨hi, h⟩ := h
          refine g_iald X hK.1 ly_56 hi dMO_relocationAt_45 ?_
          refine g_goto X dMO_relocationAt_46 ?_
          exact g_iret X hr hlk dMO_relocationAt_92 ⟨_, rfl, h⟩
      · have h := h.2 c
        refine g_aload_n X dMO_relocationAt_26 rfl 1 rfl ?_
        refine g_getr X hK.1 fw_MO_49 ly_41 rfl dMO_relocationAt_27 ?_
        refine g_iload_n X dMO_relocationAt_30 rfl 0 rfl ?_
        obtain ⟨hi, h⟩ := h
        refine g_iald X hK.1 ly_55 hi dMO_relocationAt_31 ?_
        refine g_goto X dMO_relocationAt_32 ?_
        exact g_iret X hr hlk dMO_relocationAt_92 ⟨_, rfl, h⟩
    · have h := h.2 c
      refine g_iconst X (v := (-1 : Int32)) dMO_relocationAt_14 (by decide) ?_
      exact g_iret X hr hlk dMO_relocationAt_15 ⟨_, rfl, h⟩
set_option maxRecDepth 100000 in
set_option maxHeartbeats 4000000 in
theorem m_MO_letterOf {l : Launch} {D : va_G} {ta : Nat → ClassId} {base : Nat} {sa : Nat → Nat} {post : gMem → Prop} {a0 : Int32} {M : gMem} (h : wp_MO_letterOf post a0 M) : GC gLay gCl D ta base gNw sa gTabs gTs l y_MO_letterOf b_MO_letterOf 2 none 0 0 [.ref (base + 41), .int a0] M (gPv post) := by
  refine GC.of (own := "ObjectFileModel") pn_MO rfl (Nat.le_of_ble_eq_true rfl) ?_
  intro p e s m below meth c X hK hr hlk
  refine g_args (L' := [(0, .ref (base + 41)), (1, .int a0)]) rfl ?_
  unfold wp_MO_letterOf at h
  refine g_aload_n X dMO_letterOf_0 rfl 0 rfl ?_
  refine g_getr X hK.1 fw_MO_77 ly_41 rfl dMO_letterOf_1 ?_
  refine g_aload_n X dMO_letterOf_4 rfl 0 rfl ?_
  refine g_geti X hK.1 fw_MO_117 ly_41 rfl dMO_letterOf_5 ?_
  refine g_iload_n X dMO_letterOf_8 rfl 1 rfl ?_
  obtain ⟨hi, h⟩ := h
  refine g_iast X hK.1 ly_63 hi dMO_letterOf_9 ?_
  refine g_topM (fun M1 eM1 => ?_)
  have h := h M1 eM1
  refine g_aload_n X dMO_letterOf_10 rfl 0 rfl ?_
  refine g_dup X dMO_letterOf_11 rfl ?_
  refine g_geti X hK.1 fw_MO_117 ly_41 rfl dMO_letterOf_12 ?_
  refine g_iconst X (v := (1 : Int32)) dMO_letterOf_15 (by decide) ?_
  refine g_iadd X dMO_letterOf_16 ?_
  refine g_puti X hK.1 fw_MO_117 pw_MO_36 ly_41 rfl dMO_letterOf_17 ?_
  refine g_topM (fun M2 eM2 => ?_)
  have h := h M2 eM2
  exact g_vret X hr hlk dMO_letterOf_20 ⟨rfl, h⟩
set_option maxRecDepth 100000 in
set_option maxHeartbeats 4000000 in
theorem m_MO_title {l : Launch} {D : va_G} {ta : Nat → ClassId} {base : Nat} {sa : Nat → Nat} {post : gMem → Prop} {a0 : Int32} {a1 : Int32} {a2 : Int32} {a3 : Int32} {a4 : Int32} {a5 : Int32} {a6 : Int32} {a7 : Int32} {a8 : Int32} {M : gMem} (h : wp_MO_title post a0 a1 a2 a3 a4 a5 a6 a7 a8 M) : GC gLay gCl D ta base gNw sa gTabs gTs l y_MO_title b_MO_title 10 none 1 21 [.ref (base + 41), .int a0, .int a1, .int a2, .int a3, .int a4, .int a5, .int a6, .int a7, .int a8] M (gPv post) := by
  refine GC.of (own := "ObjectFileModel") pn_MO rfl (Nat.le_of_ble_eq_true rfl) ?_
  intro p e s m below meth c X hK hr hlk
  have r_102 : ∀ (v9 : Int32) (M : gMem), wj_MO_title_102 post v9 M → GMx D ta base p l e 1 21 s m [.ref (base + 41), .int a0, .int a1, .int a2, .int a3, .int a4, .int a5, .int a6, .int a7, .int a8] below meth c (gPv post) 10 102 [(0, .ref (base + 41)), (9, .int v9)] [] M := by
    intro v9 M h
    unfold wj_MO_title_102 at h
    refine g_iload X dMO_title_102 1 rfl ?_
    refine g_if_eq X dMO_title_104 (fun c => ?_) (fun c => ?_)
    · have h := h.1 c
      refine g_aload_n X dMO_title_113 rfl 0 rfl ?_
      refine g_iconst X (v := (0 : Int32)) dMO_title_114 (by decide) ?_
      refine g_callV X hK gTs_ok ly_41 rfl mw_MO_letterOf tw_932 mi_MO_letterOf ms_MO_letterOf (As := [.int (0 : Int32)]) rfl ⟨(Nat.le_of_ble_eq_true rfl), (Nat.le_of_ble_eq_true rfl), Nat.le_refl _, Nat.le_refl _⟩ (m_MO_letterOf h) (rest := []) rfl (Nat.le_of_ble_eq_true rfl) dMO_title_115 (gk_v (fun M11 h => ?_))
      exact g_vret X hr hlk dMO_title_118 ⟨rfl, h⟩
    · have h := h.2 c
      refine g_aload_n X dMO_title_107 rfl 0 rfl ?_
      refine g_iload X dMO_title_108 1 rfl ?_
      refine g_callV X hK gTs_ok ly_41 rfl mw_MO_letterOf tw_932 mi_MO_letterOf ms_MO_letterOf (As := [.int v9]) rfl ⟨(Nat.le_of_ble_eq_true rfl), (Nat.le_of_ble_eq_true rfl), Nat.le_refl _, Nat.le_refl _⟩ (m_MO_letterOf h) (rest := []) rfl (Nat.le_of_ble_eq_true rfl) dMO_title_110 (gk_v (fun M13 h => ?_))
      refine g_aload_n X dMO_title_113 rfl 0 rfl ?_
      refine g_iconst X (v := (0 : Int32)) dMO_title_114 (by decide) ?_
      refine g_callV X hK gTs_ok ly_41 rfl mw_MO_letterOf tw_932 mi_MO_letterOf ms_MO_letterOf (As := [.int (0 : Int32)]) rfl ⟨(Nat.le_of_ble_eq_true rfl), (Nat.le_of_ble_eq_true rfl), Nat.le_refl _, Nat.le_refl _⟩ (m_MO_letterOf h) (rest := []) rfl (Nat.le_of_ble_eq_true rfl) dMO_title_115 (gk_v (fun M15 h => ?_))
      exact g_vret X hr hlk dMO_title_118 ⟨rfl, h⟩
  have r_91 : ∀ (v8 : Int32) (v9 : Int32) (M : gMem), wj_MO_title_91 post v8 v9 M → GMx D ta base p l e 1 21 s m [.ref (base + 41), .int a0, .int a1, .int a2, .int a3, .int a4, .int a5, .int a6, .int a7, .int a8] below meth c (gPv post) 10 91 [(0, .ref (base + 41)), (8, .int v8), (9, .int v9)] [] M := by
    intro v8 v9 M h
    unfold wj_MO_title_91 at h
    refine g_iload X dMO_title_91 1 rfl ?_
    refine g_if_eq X dMO_title_93 (fun c => ?_) (fun c => ?_)
    · have h := h.1 c
      refine g_sub (L' := [(0, .ref (base + 41)), (9, .int v9)]) [0, 2] rfl ?_
      exact r_102 v9 M h
    · have h := h.2 c
      refine g_aload_n X dMO_title_96 rfl 0 rfl ?_
      refine g_iload X dMO_title_97 1 rfl ?_
      refine g_callV X hK gTs_ok ly_41 rfl mw_MO_letterOf tw_932 mi_MO_letterOf ms_MO_letterOf (As := [.int v8]) rfl ⟨(Nat.le_of_ble_eq_true rfl), (Nat.le_of_ble_eq_true rfl), Nat.le_refl _, Nat.le_refl _⟩ (m_MO_letterOf h) (rest := []) rfl (Nat.le_of_ble_eq_true rfl) dMO_title_99 (gk_v (fun M17 h => ?_))
      refine g_sub (L' := [(0, .ref (base + 41)), (9, .int v9)]) [0, 2] rfl ?_
      exact r_102 v9 M17 h
  have r_80 : ∀ (v7 : Int32) (v8 : Int32) (v9 : Int32) (M : gMem), wj_MO_title_80 post v7 v8 v9 M → GMx D ta base p l e 1 21 s m [.ref (base + 41), .int a0, .int a1, .int a2, .int a3, .int a4, .int a5, .int a6, .int a7, .int a8] below meth c (gPv post) 10 80 [(0, .ref (base + 41)), (7, .int v7), (8, .int v8), (9, .int v9)] [] M := by
    intro v7 v8 v9 M h
    unfold wj_MO_title_80 at h
    refine g_iload X dMO_title_80 1 rfl ?_
    refine g_if_eq X dMO_title_82 (fun c => ?_) (fun c => ?_)
    · have h := h.1 c
      refine g_sub (L' := [(0, .ref (base + 41)), (8, .int v8), (9, .int v9)]) [0, 2, 3] rfl ?_
      exact r_91 v8 v9 M h
    · have h := h.2 c
      refine g_aload_n X dMO_title_85 rfl 0 rfl ?_
      refine g_iload X dMO_title_86 1 rfl ?_
      refine g_callV X hK gTs_ok ly_41 rfl mw_MO_letterOf tw_932 mi_MO_letterOf ms_MO_letterOf (As := [.int v7]) rfl ⟨(Nat.le_of_ble_eq_true rfl), (Nat.le_of_ble_eq_true rfl), Nat.le_refl _, Nat.le_refl _⟩ (m_MO_letterOf h) (rest := []) rfl (Nat.le_of_ble_eq_true rfl) dMO_title_88 (gk_v (fun M19 h => ?_))
      refine g_sub (L' := [(0, .ref (base + 41)), (8, .int v8), (9, .int v9)]) [0, 2, 3] rfl ?_
      exact r_91 v8 v9 M19 h
  have r_52 : ∀ (v3 : Int32) (v4 : Int32) (v5 : Int32) (v6 : Int32) (v7 : Int32) (v8 : Int32) (v9 : Int32) (M : gMem), wj_MO_title_52 post v3 v4 v5 v6 v7 v8 v9 M → GMx D ta base p l e 1 21 s m [.ref (base + 41), .int a0, .int a1, .int a2, .int a3, .int a4, .int a5, .int a6, .int a7, .int a8] below meth c (gPv post) 10 52 [(0, .ref (base + 41)), (3, .int v3), (4, .int v4), (5, .int v5), (6, .int v6), (7, .int v7), (8, .int v8), (9, .int v9)] [] M := by
    intro v3 v4 v5 v6 v7 v8 v9 M h
    unfold wj_MO_title_52 at h
    refine g_aload_n X dMO_title_52 rfl 0 rfl ?_
    refine g_iload_n X dMO_title_53 rfl 1 rfl ?_
    refine g_callV X hK gTs_ok ly_41 rfl mw_MO_letterOf tw_932 mi_MO_letterOf ms_MO_letterOf (As := [.int v3]) rfl ⟨(Nat.le_of_ble_eq_true rfl), (Nat.le_of_ble_eq_true rfl), Nat.le_refl _, Nat.le_refl _⟩ (m_MO_letterOf h) (rest := []) rfl (Nat.le_of_ble_eq_true rfl) dMO_title_54 (gk_v (fun M5 h => ?_))
    refine g_aload_n X dMO_title_57 rfl 0 rfl ?_
    refine g_iload X dMO_title_58 2 rfl ?_
    refine g_callV X hK gTs_ok ly_41 rfl mw_MO_letterOf tw_932 mi_MO_letterOf ms_MO_letterOf (As := [.int v4]) rfl ⟨(Nat.le_of_ble_eq_true rfl), (Nat.le_of_ble_eq_true rfl), Nat.le_refl _, Nat.le_refl _⟩ (m_MO_letterOf h) (rest := []) rfl (Nat.le_of_ble_eq_true rfl) dMO_title_60 (gk_v (fun M7 h => ?_))
    refine g_aload_n X dMO_title_63 rfl 0 rfl ?_
    refine g_iload X dMO_title_64 3 rfl ?_
    refine g_callV X hK gTs_ok ly_41 rfl mw_MO_letterOf tw_932 mi_MO_letterOf ms_MO_letterOf (As := [.int v5]) rfl ⟨(Nat.le_of_ble_eq_true rfl), (Nat.le_of_ble_eq_true rfl), Nat.le_refl _, Nat.le_refl _⟩ (m_MO_letterOf h) (rest := []) rfl (Nat.le_of_ble_eq_true rfl) dMO_title_66 (gk_v (fun M9 h => ?_))
    refine g_iload X dMO_title_69 4 rfl ?_
    refine g_if_eq X dMO_title_71 (fun c => ?_) (fun c => ?_)
    · have h := h.1 c
      refine g_sub (L' := [(0, .ref (base + 41)), (7, .int v7), (8, .int v8), (9, .int v9)]) [0, 5, 6, 7] rfl ?_
      exact r_80 v7 v8 v9 M9 h
    · have h := h.2 c
      refine g_aload_n X dMO_title_74 rfl 0 rfl ?_
      refine g_iload X dMO_title_75 4 rfl ?_
      refine g_callV X hK gTs_ok ly_41 rfl mw_MO_letterOf tw_932 mi_MO_letterOf ms_MO_letterOf (As := [.int v6]) rfl ⟨(Nat.le_of_ble_eq_true rfl), (Nat.le_of_ble_eq_true rfl), Nat.le_refl _, Nat.le_refl _⟩ (m_MO_letterOf h) (rest := []) rfl (Nat.le_of_ble_eq_true rfl) dMO_title_77 (gk_v (fun M21 h => ?_))
      refine g_sub (L' := [(0, .ref (base + 41)), (7, .int v7), (8, .int v8), (9, .int v9)]) [0, 5, 6, 7] rfl ?_
      exact r_80 v7 v8 v9 M21 h
  refine g_args (L' := [(0, .ref (base + 41)), (1, .int a0), (2, .int a1), (3, .int a2), (4, .int a3), (5, .int a4), (6, .int a5), (7, .int a6), (8, .int a7), (9, .int a8)]) rfl ?_
  unfold wp_MO_title at h
  refine g_aload_n X dMO_title_0 rfl 0 rfl ?_
  refine g_getr X hK.1 fw_MO_80 ly_41 rfl dMO_title_1 ?_
  refine g_iload_n X dMO_title_4 rfl 1 rfl ?_
  refine g_aload_n X dMO_title_5 rfl 0 rfl ?_
  refine g_geti X hK.1 fw_MO_117 ly_41 rfl dMO_title_6 ?_
  obtain ⟨hi, h⟩ := h
  refine g_iast X hK.1 ly_64 hi dMO_title_9 ?_
  refine g_topM (fun M1 eM1 => ?_)
  have h := h M1 eM1
  refine g_aload_n X dMO_title_10 rfl 0 rfl ?_
  refine g_bipush X (v := (46 : Int32)) dMO_title_11 (by decide) ?_
  refine g_callV X hK gTs_ok ly_41 rfl mw_MO_letterOf tw_932 mi_MO_letterOf ms_MO_letterOf (As := [.int (46 : Int32)]) rfl ⟨(Nat.le_of_ble_eq_true rfl), (Nat.le_of_ble_eq_true rfl), Nat.le_refl _, Nat.le_refl _⟩ (m_MO_letterOf h) (rest := []) rfl (Nat.le_of_ble_eq_true rfl) dMO_title_13 (gk_v (fun M3 h => ?_))
  refine g_iload_n X dMO_title_16 rfl 2 rfl ?_
  refine g_bipush X (v := (114 : Int32)) dMO_title_17 (by decide) ?_
  refine g_icmp_ne X dMO_title_19 (fun c => ?_) (fun c => ?_)
  · have h := h.1 c
    refine g_sub (L' := [(0, .ref (base + 41)), (3, .int a2), (4, .int a3), (5, .int a4), (6, .int a5), (7, .int a6), (8, .int a7), (9, .int a8)]) [0, 3, 4, 5, 6, 7, 8, 9] rfl ?_
    exact r_52 a2 a3 a4 a5 a6 a7 a8 M3 h
  · have h := h.2 c
    refine g_aload_n X dMO_title_22 rfl 0 rfl ?_
    refine g_bipush X (v := (114 : Int32)) dMO_title_23 (by decide) ?_
    refine g_callV X hK gTs_ok ly_41 rfl mw_MO_letterOf tw_932 mi_MO_letterOf ms_MO_letterOf (As := [.int (114 : Int32)]) rfl ⟨(Nat.le_of_ble_eq_true rfl), (Nat.le_of_ble_eq_true rfl), Nat.le_refl _, Nat.le_refl _⟩ (m_MO_letterOf h) (rest := []) rfl (Nat.le_of_ble_eq_true rfl) dMO_title_25 (gk_v (fun M23 h => ?_))
    refine g_aload_n X dMO_title_28 rfl 0 rfl ?_
    refine g_bipush X (v := (101 : Int32)) dMO_title_29 (by decide) ?_
    refine g_callV X hK gTs_ok ly_41 rfl mw_MO_letterOf tw_932 mi_MO_letterOf ms_MO_letterOf (As := [.int (101 : Int32)]) rfl ⟨(Nat.le_of_ble_eq_true rfl), (Nat.le_of_ble_eq_true rfl), Nat.le_refl _, Nat.le_refl _⟩ (m_MO_letterOf h) (rest := []) rfl (Nat.le_of_ble_eq_true rfl) dMO_title_31 (gk_v (fun M25 h => ?_))
    refine g_aload_n X dMO_title_34 rfl 0 rfl ?_
    refine g_bipush X (v := (108 : Int32)) dMO_title_35 (by decide) ?_
    refine g_callV X hK gTs_ok ly_41 rfl mw_MO_letterOf tw_932 mi_MO_letterOf ms_MO_letterOf (As := [.int (108 : Int32)]) rfl ⟨(Nat.le_of_ble_eq_true rfl), (Nat.le_of_ble_eq_true rfl), Nat.le_refl _, Nat.le_refl _⟩ (m_MO_letterOf h) (rest := []) rfl (Nat.le_of_ble_eq_true rfl) dMO_title_37 (gk_v (fun M27 h => ?_))
    refine g_aload_n X dMO_title_40 rfl 0 rfl ?_
    refine g_bipush X (v := (97 : Int32)) dMO_title_41 (by decide) ?_
    refine g_callV X hK gTs_ok ly_41 rfl mw_MO_letterOf tw_932 mi_MO_letterOf ms_MO_letterOf (As := [.int (97 : Int32)]) rfl ⟨(Nat.le_of_ble_eq_true rfl), (Nat.le_of_ble_eq_true rfl), Nat.le_refl _, Nat.le_refl _⟩ (m_MO_letterOf h) (rest := []) rfl (Nat.le_of_ble_eq_true rfl) dMO_title_43 (gk_v (fun M29 h => ?_))
    refine g_aload_n X dMO_title_46 rfl 0 rfl ?_
    refine g_bipush X (v := (46 : Int32)) dMO_title_47 (by decide) ?_
    refine g_callV X hK gTs_ok ly_41 rfl mw_MO_letterOf tw_932 mi_MO_letterOf ms_MO_letterOf (As := [.int (46 : Int32)]) rfl ⟨(Nat.le_of_ble_eq_true rfl), (Nat.le_of_ble_eq_true rfl), Nat.le_refl _, Nat.le_refl _⟩ (m_MO_letterOf h) (rest := []) rfl (Nat.le_of_ble_eq_true rfl) dMO_title_49 (gk_v (fun M31 h => ?_))
    refine g_sub (L' := [(0, .ref (base + 41)), (3, .int a2), (4, .int a3), (5, .int a4), (6, .int a5), (7, .int a6), (8, .int a7), (9, .int a8)]) [0, 3, 4, 5, 6, 7, 8, 9] rfl ?_
    exact r_52 a2 a3 a4 a5 a6 a7 a8 M31 h
