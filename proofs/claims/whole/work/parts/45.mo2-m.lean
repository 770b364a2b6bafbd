set_option maxRecDepth 100000 in
set_option maxHeartbeats 4000000 in
theorem m_MO_nameFaults {l : Launch} {D : va_G} {ta : Nat → ClassId} {base : Nat} {sa : Nat → Nat} {post : Int32 → gMem → Prop} {M : gMem} (h : wp_MO_nameFaults post M) : GC gLay gCl D ta base gNw sa gTabs gTs l y_MO_nameFaults b_MO_nameFaults 6 (some .int) 3 64 [.ref (base + 41)] M (gPi post) := by
  refine GC.of (own := "ObjectFileModel") pn_MO rfl (Nat.le_of_ble_eq_true rfl) ?_
  intro p e s m below meth c X hK hr hlk
  have r_249 : ∀ (v4 : Int32) (M : gMem), wj_MO_nameFaults_249 post v4 M → GMx D ta base p l e 3 64 s m [.ref (base + 41)] below meth c (gPi post) 6 249 [(0, .ref (base + 41)), (4, .int v4)] [] M := by
    intro v4 M h
    unfold wj_MO_nameFaults_249 at h
    refine g_aload_n X dMO_nameFaults_249 rfl 0 rfl ?_
    refine g_bipush X (v := (16 : Int32)) dMO_nameFaults_250 (by decide) ?_
    refine g_aload_n X dMO_nameFaults_252 rfl 0 rfl ?_
    refine g_iload X dMO_nameFaults_253 1 rfl ?_
    refine g_iconst X (v := (0 : Int32)) dMO_nameFaults_255 (by decide) ?_
    refine g_callV X hK gTs_ok ly_41 rfl mw_MO_spotOf tw_1267 mi_MO_spotOf ms_MO_spotOf (As := [.int v4, .int (0 : Int32)]) rfl ⟨(Nat.le_of_ble_eq_true rfl), (Nat.le_of_ble_eq_true rfl), Nat.le_refl _, Nat.le_refl _⟩ (m_MO_spotOf h) (rest := [.int (16 : Int32), .ref (base + 41)]) rfl (Nat.le_of_ble_eq_true rfl) dMO_nameFaults_256 (gk_i (fun r14 M15 h => ?_))
    refine g_callV X hK gTs_ok ly_41 rfl mw_MO_fault tw_1243 mi_MO_fault ms_MO_fault (As := [.int (16 : Int32), .int r14]) rfl ⟨(Nat.le_of_ble_eq_true rfl), (Nat.le_of_ble_eq_true rfl), Nat.le_refl _, Nat.le_refl _⟩ (m_MO_fault h) (rest := []) rfl (Nat.le_of_ble_eq_true rfl) dMO_nameFaults_259 (gk_i (fun r16 M17 h => ?_))
    exact g_iret X hr hlk dMO_nameFaults_262 ⟨_, rfl, h⟩
  have r_182 : ∀ (k135 : Int32 → Int32 → Int32 → gMem → Prop) (hk135 : ∀ (v2 : Int32) (v3 : Int32) (v4 : Int32) (M : gMem), k135 v2 v3 v4 M → GMx D ta base p l e 3 64 s m [.ref (base + 41)] below meth c (gPi post) 6 135 [(0, .ref (base + 41)), (2, .int v2), (3, .int v3), (4, .int v4)] [] M) (n : Nat) (v2 : Int32) (v3 : Int32) (v4 : Int32) (v5 : Int32) (M : gMem), wl_MO_nameFaults_182 post k135 n v2 v3 v4 v5 M → GMx D ta base p l e 3 64 s m [.ref (base + 41)] below meth c (gPi post) 6 182 [(0, .ref (base + 41)), (2, .int v2), (3, .int v3), (4, .int v4), (5, .int v5)] [] M := by
    intro k135 hk135 n
    induction n with
    | zero => exact fun _ _ _ _ M h => h.elim
    | succ n ih =>
      intro v2 v3 v4 v5 M h
      refine g_iload X dMO_nameFaults_182 4 rfl ?_
      refine g_bipush X (v := (11 : Int32)) dMO_nameFaults_184 (by decide) ?_
      refine g_icmp_ge X dMO_nameFaults_186 (fun c => ?_) (fun c => ?_)
      · have h := h.1 c
        refine g_aload_n X dMO_nameFaults_223 rfl 0 rfl ?_
        refine g_getr X hK.1 fw_MO_110 ly_41 rfl dMO_nameFaults_224 ?_
        refine g_iload X dMO_nameFaults_227 3 rfl ?_
        obtain ⟨hi, h⟩ := h
        refine g_iald X hK.1 ly_74 hi dMO_nameFaults_229 ?_
        refine g_iconst X (v := (-1 : Int32)) dMO_nameFaults_230 (by decide) ?_
        refine g_icmp_eq X dMO_nameFaults_231 (fun c => ?_) (fun c => ?_)
        · have h := h.1 c
          refine g_sub (L' := [(0, .ref (base + 41)), (4, .int v4)]) [0, 3] rfl ?_
          exact r_249 v4 M h
        · have h := h.2 c
          refine g_aload_n X dMO_nameFaults_234 rfl 0 rfl ?_
          refine g_getr X hK.1 fw_MO_107 ly_41 rfl dMO_nameFaults_235 ?_
          refine g_aload_n X dMO_nameFaults_238 rfl 0 rfl ?_
          refine g_getr X hK.1 fw_MO_110 ly_41 rfl dMO_nameFaults_239 ?_
          refine g_iload X dMO_nameFaults_242 3 rfl ?_
          obtain ⟨hi, h⟩ := h
          refine g_iald X hK.1 ly_74 hi dMO_nameFaults_244 ?_
          obtain ⟨hi, h⟩ := h
          refine g_iald X hK.1 ly_73 hi dMO_nameFaults_245 ?_
          refine g_if_eq X dMO_nameFaults_246 (fun c => ?_) (fun c => ?_)
          · have h := h.1 c
            refine g_aload_n X dMO_nameFaults_263 rfl 0 rfl ?_
            refine g_getr X hK.1 fw_MO_107 ly_41 rfl dMO_nameFaults_264 ?_
            refine g_aload_n X dMO_nameFaults_267 rfl 0 rfl ?_
            refine g_getr X hK.1 fw_MO_110 ly_41 rfl dMO_nameFaults_268 ?_
            refine g_iload X dMO_nameFaults_271 3 rfl ?_
            obtain ⟨hi, h⟩ := h
            refine g_iald X hK.1 ly_74 hi dMO_nameFaults_273 ?_
            refine g_iload X dMO_nameFaults_274 3 rfl ?_
            obtain ⟨hi, h⟩ := h
            refine g_iast X hK.1 ly_73 hi dMO_nameFaults_276 ?_
            refine g_topM (fun M18 eM18 => ?_)
            have h := h M18 eM18
            obtain ⟨x19, ex19⟩ : ∃ z : Int32, z = v4 + (1 : Int32) := ⟨_, rfl⟩
            have h := h x19 ex19
            refine g_iinc X (L' := [(4, .int x19), (0, .ref (base + 41)), (2, .int v2), (3, .int v3), (5, .int v5)]) (k := 3) dMO_nameFaults_277 rfl (v := x19) (by rw [ex19]; rfl) (Nat.le_of_ble_eq_true rfl) rfl ?_
            refine g_goto X dMO_nameFaults_280 ?_
            refine g_sub (L' := [(0, .ref (base + 41)), (2, .int v2), (3, .int v3), (4, .int x19)]) [1, 2, 3, 0] rfl ?_
            exact hk135 v2 v3 x19 M18 h
          · have h := h.2 c
            refine g_sub (L' := [(0, .ref (base + 41)), (4, .int v4)]) [0, 3] rfl ?_
            exact r_249 v4 M h
      · have h := h.2 c
        refine g_aload_n X dMO_nameFaults_189 rfl 0 rfl ?_
        refine g_iload X dMO_nameFaults_190 4 rfl ?_
        refine g_iload_n X dMO_nameFaults_192 rfl 1 rfl ?_
        refine g_aload_n X dMO_nameFaults_193 rfl 0 rfl ?_
        refine g_iload X dMO_nameFaults_194 3 rfl ?_
        refine g_iconst X (v := (0 : Int32)) dMO_nameFaults_196 (by decide) ?_
        refine g_callV X hK gTs_ok ly_41 rfl mw_MO_told tw_1263 mi_MO_told ms_MO_told (As := [.int v4, .int (0 : Int32)]) rfl ⟨(Nat.le_of_ble_eq_true rfl), (Nat.le_of_ble_eq_true rfl), Nat.le_refl _, Nat.le_refl _⟩ (m_MO_told h) (rest := [.int v2, .int v5, .ref (base + 41)]) rfl (Nat.le_of_ble_eq_true rfl) dMO_nameFaults_197 (gk_l (fun r20 M21 h => ?_))
        refine g_l2i X dMO_nameFaults_200 rfl ?_
        refine g_iadd X dMO_nameFaults_201 ?_
        refine g_callV X hK gTs_ok ly_41 rfl mw_MO_isTitle tw_1281 mi_MO_isTitle ms_MO_isTitle (As := [.int v5, .int (v2 + (r20.toInt32))]) rfl ⟨(Nat.le_of_ble_eq_true rfl), (Nat.le_of_ble_eq_true rfl), Nat.le_refl _, Nat.le_refl _⟩ (m_MO_isTitle h) (rest := []) rfl (Nat.le_of_ble_eq_true rfl) dMO_nameFaults_202 (gk_z (fun r22 M23 h => ?_))
        refine g_if_eq X dMO_nameFaults_205 (fun c => ?_) (fun c => ?_)
        · have h := h.1 c
          obtain ⟨x24, ex24⟩ : ∃ z : Int32, z = v5 + (1 : Int32) := ⟨_, rfl⟩
          have h := h x24 ex24
          refine g_iinc X (L' := [(5, .int x24), (0, .ref (base + 41)), (2, .int v2), (3, .int v3), (4, .int v4)]) (k := 4) dMO_nameFaults_217 rfl (v := x24) (by rw [ex24]; rfl) (Nat.le_of_ble_eq_true rfl) rfl ?_
          refine g_goto X dMO_nameFaults_220 ?_
          refine g_sub (L' := [(0, .ref (base + 41)), (2, .int v2), (3, .int v3), (4, .int v4), (5, .int x24)]) [1, 2, 3, 4, 0] rfl ?_
          exact ih v2 v3 v4 x24 M23 h
        · have h := h.2 c
          refine g_aload_n X dMO_nameFaults_208 rfl 0 rfl ?_
          refine g_getr X hK.1 fw_MO_110 ly_41 rfl dMO_nameFaults_209 ?_
          refine g_iload X dMO_nameFaults_212 3 rfl ?_
          refine g_iload X dMO_nameFaults_214 4 rfl ?_
          obtain ⟨hi, h⟩ := h
          refine g_iast X hK.1 ly_74 hi dMO_nameFaults_216 ?_
          refine g_topM (fun M25 eM25 => ?_)
          have h := h M25 eM25
          obtain ⟨x26, ex26⟩ : ∃ z : Int32, z = v5 + (1 : Int32) := ⟨_, rfl⟩
          have h := h x26 ex26
          refine g_iinc X (L' := [(5, .int x26), (0, .ref (base + 41)), (2, .int v2), (3, .int v3), (4, .int v4)]) (k := 4) dMO_nameFaults_217 rfl (v := x26) (by rw [ex26]; rfl) (Nat.le_of_ble_eq_true rfl) rfl ?_
          refine g_goto X dMO_nameFaults_220 ?_
          refine g_sub (L' := [(0, .ref (base + 41)), (2, .int v2), (3, .int v3), (4, .int v4), (5, .int x26)]) [1, 2, 3, 4, 0] rfl ?_
          exact ih v2 v3 v4 x26 M25 h
  have r_135 : ∀ (n : Nat) (v2 : Int32) (v3 : Int32) (v4 : Int32) (M : gMem), wl_MO_nameFaults_135 post n v2 v3 v4 M → GMx D ta base p l e 3 64 s m [.ref (base + 41)] below meth c (gPi post) 6 135 [(0, .ref (base + 41)), (2, .int v2), (3, .int v3), (4, .int v4)] [] M := by
    intro n
    induction n with
    | zero => exact fun _ _ _ M h => h.elim
    | succ n ih =>
      intro v2 v3 v4 M h
      refine g_iload X dMO_nameFaults_135 3 rfl ?_
      refine g_aload_n X dMO_nameFaults_137 rfl 0 rfl ?_
      refine g_geti X hK.1 fw_MO_195 ly_41 rfl dMO_nameFaults_138 ?_
      refine g_icmp_ge X dMO_nameFaults_141 (fun c => ?_) (fun c => ?_)
      · have h := h.1 c
        refine g_iconst X (v := (0 : Int32)) dMO_nameFaults_283 (by decide) ?_
        exact g_iret X hr hlk dMO_nameFaults_284 ⟨_, rfl, h⟩
      · have h := h.2 c
        refine g_aload_n X dMO_nameFaults_144 rfl 0 rfl ?_
        refine g_getr X hK.1 fw_MO_110 ly_41 rfl dMO_nameFaults_145 ?_
        refine g_iload X dMO_nameFaults_148 3 rfl ?_
        refine g_iconst X (v := (-1 : Int32)) dMO_nameFaults_150 (by decide) ?_
        obtain ⟨hi, h⟩ := h
        refine g_iast X hK.1 ly_74 hi dMO_nameFaults_151 ?_
        refine g_topM (fun M11 eM11 => ?_)
        have h := h M11 eM11
        refine g_aload_n X dMO_nameFaults_152 rfl 0 rfl ?_
        refine g_iload X dMO_nameFaults_153 3 rfl ?_
        refine g_iconst X (v := (0 : Int32)) dMO_nameFaults_155 (by decide) ?_
        refine g_callV X hK gTs_ok ly_41 rfl mw_MO_told tw_1263 mi_MO_told ms_MO_told (As := [.int v4, .int (0 : Int32)]) rfl ⟨(Nat.le_of_ble_eq_true rfl), (Nat.le_of_ble_eq_true rfl), Nat.le_refl _, Nat.le_refl _⟩ (m_MO_told h) (rest := []) rfl (Nat.le_of_ble_eq_true rfl) dMO_nameFaults_156 (gk_l (fun r12 M13 h => ?_))
        refine g_iload_n X dMO_nameFaults_159 rfl 2 rfl ?_
        refine g_i2l X dMO_nameFaults_160 rfl ?_
        refine g_lif_lt X dMO_nameFaults_161 dMO_nameFaults_162 (fun c => ?_) (fun c => ?_)
        · have h := h.1 c
          refine g_iconst X (v := (0 : Int32)) dMO_nameFaults_179 (by decide) ?_
          refine g_istore X (L' := [(5, .int (0 : Int32)), (0, .ref (base + 41)), (2, .int v2), (3, .int v3), (4, .int v4)]) dMO_nameFaults_180 (Nat.le_of_ble_eq_true rfl) rfl ?_
          refine g_sub (L' := [(0, .ref (base + 41)), (2, .int v2), (3, .int v3), (4, .int v4), (5, .int (0 : Int32))]) [1, 2, 3, 4, 0] rfl ?_
          obtain ⟨n9, h⟩ := h
          exact r_182 _ (ih) n9 v2 v3 v4 (0 : Int32) M13 h
        · have h := h.2 c
          refine g_aload_n X dMO_nameFaults_165 rfl 0 rfl ?_
          refine g_bipush X (v := (16 : Int32)) dMO_nameFaults_166 (by decide) ?_
          refine g_aload_n X dMO_nameFaults_168 rfl 0 rfl ?_
          refine g_iload X dMO_nameFaults_169 3 rfl ?_
          refine g_iconst X (v := (0 : Int32)) dMO_nameFaults_171 (by decide) ?_
          refine g_callV X hK gTs_ok ly_41 rfl mw_MO_spotOf tw_1267 mi_MO_spotOf ms_MO_spotOf (As := [.int v4, .int (0 : Int32)]) rfl ⟨(Nat.le_of_ble_eq_true rfl), (Nat.le_of_ble_eq_true rfl), Nat.le_refl _, Nat.le_refl _⟩ (m_MO_spotOf h) (rest := [.int (16 : Int32), .ref (base + 41)]) rfl (Nat.le_of_ble_eq_true rfl) dMO_nameFaults_172 (gk_i (fun r27 M28 h => ?_))
          refine g_callV X hK gTs_ok ly_41 rfl mw_MO_fault tw_1243 mi_MO_fault ms_MO_fault (As := [.int (16 : Int32), .int r27]) rfl ⟨(Nat.le_of_ble_eq_true rfl), (Nat.le_of_ble_eq_true rfl), Nat.le_refl _, Nat.le_refl _⟩ (m_MO_fault h) (rest := []) rfl (Nat.le_of_ble_eq_true rfl) dMO_nameFaults_175 (gk_i (fun r29 M30 h => ?_))
          exact g_iret X hr hlk dMO_nameFaults_178 ⟨_, rfl, h⟩
  have r_111 : ∀ (n : Nat) (v2 : Int32) (v3 : Int32) (v4 : Int32) (M : gMem), wl_MO_nameFaults_111 post n v2 v3 v4 M → GMx D ta base p l e 3 64 s m [.ref (base + 41)] below meth c (gPi post) 6 111 [(0, .ref (base + 41)), (2, .int v2), (3, .int v3), (4, .int v4)] [] M := by
    intro n
    induction n with
    | zero => exact fun _ _ _ M h => h.elim
    | succ n ih =>
      intro v2 v3 v4 M h
      refine g_iload X dMO_nameFaults_111 3 rfl ?_
      refine g_bipush X (v := (11 : Int32)) dMO_nameFaults_113 (by decide) ?_
      refine g_icmp_ge X dMO_nameFaults_115 (fun c => ?_) (fun c => ?_)
      · have h := h.1 c
        refine g_iconst X (v := (1 : Int32)) dMO_nameFaults_132 (by decide) ?_
        refine g_istore X (L' := [(4, .int (1 : Int32)), (0, .ref (base + 41)), (2, .int v2), (3, .int v3)]) dMO_nameFaults_133 (Nat.le_of_ble_eq_true rfl) rfl ?_
        refine g_sub (L' := [(0, .ref (base + 41)), (2, .int v2), (3, .int v3), (4, .int (1 : Int32))]) [1, 2, 3, 0] rfl ?_
        obtain ⟨n9, h⟩ := h
        exact r_135 n9 v2 v3 (1 : Int32) M h
      · have h := h.2 c
        refine g_aload_n X dMO_nameFaults_118 rfl 0 rfl ?_
        refine g_getr X hK.1 fw_MO_107 ly_41 rfl dMO_nameFaults_119 ?_
        refine g_iload X dMO_nameFaults_122 3 rfl ?_
        refine g_iconst X (v := (0 : Int32)) dMO_nameFaults_124 (by decide) ?_
        obtain ⟨hi, h⟩ := h
        refine g_iast X hK.1 ly_73 hi dMO_nameFaults_125 ?_
        refine g_topM (fun M31 eM31 => ?_)
        have h := h M31 eM31
        obtain ⟨x32, ex32⟩ : ∃ z : Int32, z = v4 + (1 : Int32) := ⟨_, rfl⟩
        have h := h x32 ex32
        refine g_iinc X (L' := [(4, .int x32), (0, .ref (base + 41)), (2, .int v2), (3, .int v3)]) (k := 3) dMO_nameFaults_126 rfl (v := x32) (by rw [ex32]; rfl) (Nat.le_of_ble_eq_true rfl) rfl ?_
        refine g_goto X dMO_nameFaults_129 ?_
        refine g_sub (L' := [(0, .ref (base + 41)), (2, .int v2), (3, .int v3), (4, .int x32)]) [1, 2, 3, 0] rfl ?_
        exact ih v2 v3 x32 M31 h
  refine g_args (L' := [(0, .ref (base + 41))]) rfl ?_
  unfold wp_MO_nameFaults at h
  refine g_aload_n X dMO_nameFaults_0 rfl 0 rfl ?_
  refine g_bipush X (v := (50 : Int32)) dMO_nameFaults_1 (by decide) ?_
  refine g_callV X hK gTs_ok ly_41 rfl mw_MO_read2 tw_1247 mi_MO_read2 ms_MO_read2 (As := [.int (50 : Int32)]) rfl ⟨(Nat.le_of_ble_eq_true rfl), (Nat.le_of_ble_eq_true rfl), Nat.le_refl _, Nat.le_refl _⟩ (m_MO_read2 h) (rest := []) rfl (Nat.le_of_ble_eq_true rfl) dMO_nameFaults_3 (gk_i (fun r1 M2 h => ?_))
  refine g_istore_n X (L' := [(1, .int r1), (0, .ref (base + 41))]) dMO_nameFaults_6 rfl (Nat.le_of_ble_eq_true rfl) rfl ?_
  refine g_aload_n X dMO_nameFaults_7 rfl 1 rfl ?_
  refine g_iload_n X dMO_nameFaults_8 rfl 0 rfl ?_
  refine g_iconst X (v := (1 : Int32)) dMO_nameFaults_9 (by decide) ?_
  refine g_callV X hK gTs_ok ly_41 rfl mw_MO_told tw_1263 mi_MO_told ms_MO_told (As := [.int r1, .int (1 : Int32)]) rfl ⟨(Nat.le_of_ble_eq_true rfl), (Nat.le_of_ble_eq_true rfl), Nat.le_refl _, Nat.le_refl _⟩ (m_MO_told h) (rest := []) rfl (Nat.le_of_ble_eq_true rfl) dMO_nameFaults_10 (gk_l (fun r3 M4 h => ?_))
  refine g_ldc2 X (v := (3 : Int64)) (tw_1280) dMO_nameFaults_13 ?_
  refine g_lif_eq X dMO_nameFaults_16 dMO_nameFaults_17 (fun c => ?_) (fun c => ?_)
  · have h := h.1 c
    refine g_aload_n X dMO_nameFaults_33 rfl 1 rfl ?_
    refine g_iload_n X dMO_nameFaults_34 rfl 0 rfl ?_
    refine g_iconst X (v := (4 : Int32)) dMO_nameFaults_35 (by decide) ?_
    refine g_callV X hK gTs_ok ly_41 rfl mw_MO_told tw_1263 mi_MO_told ms_MO_told (As := [.int r1, .int (4 : Int32)]) rfl ⟨(Nat.le_of_ble_eq_true rfl), (Nat.le_of_ble_eq_true rfl), Nat.le_refl _, Nat.le_refl _⟩ (m_MO_told h) (rest := []) rfl (Nat.le_of_ble_eq_true rfl) dMO_nameFaults_36 (gk_l (fun r5 M6 h => ?_))
    refine g_l2i X dMO_nameFaults_39 rfl ?_
    refine g_topi (fun x7 ex7 => ?_)
    have h := h x7 ex7
    refine g_istore_n X (L' := [(2, .int x7), (1, .int r1), (0, .ref (base + 41))]) dMO_nameFaults_40 rfl (Nat.le_of_ble_eq_true rfl) rfl ?_
    refine g_aload_n X dMO_nameFaults_41 rfl 2 rfl ?_
    refine g_iload_n X dMO_nameFaults_42 rfl 1 rfl ?_
    refine g_iconst X (v := (5 : Int32)) dMO_nameFaults_43 (by decide) ?_
    refine g_callV X hK gTs_ok ly_41 rfl mw_MO_told tw_1263 mi_MO_told ms_MO_told (As := [.int r1, .int (5 : Int32)]) rfl ⟨(Nat.le_of_ble_eq_true rfl), (Nat.le_of_ble_eq_true rfl), Nat.le_refl _, Nat.le_refl _⟩ (m_MO_told h) (rest := []) rfl (Nat.le_of_ble_eq_true rfl) dMO_nameFaults_44 (gk_l (fun r8 M9 h => ?_))
    refine g_l2i X dMO_nameFaults_47 rfl ?_
    refine g_topi (fun x10 ex10 => ?_)
    have h := h x10 ex10
    refine g_istore_n X (L' := [(3, .int x10), (2, .int x7), (1, .int r1), (0, .ref (base + 41))]) dMO_nameFaults_48 rfl (Nat.le_of_ble_eq_true rfl) rfl ?_
    refine g_iload_n X dMO_nameFaults_49 rfl 0 rfl ?_
    refine g_if_ne X dMO_nameFaults_50 (fun c => ?_) (fun c => ?_)
    · have h := h.1 c
      refine g_aload_n X dMO_nameFaults_66 rfl 3 rfl ?_
      refine g_getr X hK.1 fw_MO_70 ly_41 rfl dMO_nameFaults_67 ?_
      refine g_iload_n X dMO_nameFaults_70 rfl 1 rfl ?_
      obtain ⟨hi, h⟩ := h
      refine g_iald X hK.1 ly_62 hi dMO_nameFaults_71 ?_
      refine g_if_eq X dMO_nameFaults_72 (fun c => ?_) (fun c => ?_)
      · have h := h.1 c
        refine g_aload_n X dMO_nameFaults_83 rfl 3 rfl ?_
        refine g_getr X hK.1 fw_MO_70 ly_41 rfl dMO_nameFaults_84 ?_
        refine g_iload_n X dMO_nameFaults_87 rfl 1 rfl ?_
        refine g_iload_n X dMO_nameFaults_88 rfl 0 rfl ?_
        refine g_iadd X dMO_nameFaults_89 ?_
        refine g_iconst X (v := (1 : Int32)) dMO_nameFaults_90 (by decide) ?_
        refine g_isub X dMO_nameFaults_91 ?_
        obtain ⟨hi, h⟩ := h
        refine g_iald X hK.1 ly_62 hi dMO_nameFaults_92 ?_
        refine g_if_eq X dMO_nameFaults_93 (fun c => ?_) (fun c => ?_)
        · have h := h.1 c
          refine g_iconst X (v := (0 : Int32)) dMO_nameFaults_108 (by decide) ?_
          refine g_istore X (L' := [(4, .int (0 : Int32)), (3, .int x10), (2, .int x7), (1, .int r1), (0, .ref (base + 41))]) dMO_nameFaults_109 (Nat.le_of_ble_eq_true rfl) rfl ?_
          refine g_sub (L' := [(0, .ref (base + 41)), (2, .int x7), (3, .int x10), (4, .int (0 : Int32))]) [4, 2, 1, 0] rfl ?_
          obtain ⟨n9, h⟩ := h
          exact r_111 n9 x7 x10 (0 : Int32) M9 h
        · have h := h.2 c
          refine g_aload_n X dMO_nameFaults_96 rfl 3 rfl ?_
          refine g_bipush X (v := (15 : Int32)) dMO_nameFaults_97 (by decide) ?_
          refine g_iload_n X dMO_nameFaults_99 rfl 1 rfl ?_
          refine g_iload_n X dMO_nameFaults_100 rfl 0 rfl ?_
          refine g_iadd X dMO_nameFaults_101 ?_
          refine g_iconst X (v := (1 : Int32)) dMO_nameFaults_102 (by decide) ?_
          refine g_isub X dMO_nameFaults_103 ?_
          refine g_callV X hK gTs_ok ly_41 rfl mw_MO_fault tw_1243 mi_MO_fault ms_MO_fault (As := [.int (15 : Int32), .int ((x7 + x10) - (1 : Int32))]) rfl ⟨(Nat.le_of_ble_eq_true rfl), (Nat.le_of_ble_eq_true rfl), Nat.le_refl _, Nat.le_refl _⟩ (m_MO_fault h) (rest := []) rfl (Nat.le_of_ble_eq_true rfl) dMO_nameFaults_104 (gk_i (fun r33 M34 h => ?_))
          exact g_iret X hr hlk dMO_nameFaults_107 ⟨_, rfl, h⟩
      · have h := h.2 c
        refine g_aload_n X dMO_nameFaults_75 rfl 3 rfl ?_
        refine g_bipush X (v := (15 : Int32)) dMO_nameFaults_76 (by decide) ?_
        refine g_iload_n X dMO_nameFaults_78 rfl 1 rfl ?_
        refine g_callV X hK gTs_ok ly_41 rfl mw_MO_fault tw_1243 mi_MO_fault ms_MO_fault (As := [.int (15 : Int32), .int x7]) rfl ⟨(Nat.le_of_ble_eq_true rfl), (Nat.le_of_ble_eq_true rfl), Nat.le_refl _, Nat.le_refl _⟩ (m_MO_fault h) (rest := []) rfl (Nat.le_of_ble_eq_true rfl) dMO_nameFaults_79 (gk_i (fun r35 M36 h => ?_))
        exact g_iret X hr hlk dMO_nameFaults_82 ⟨_, rfl, h⟩
    · have h := h.2 c
      refine g_aload_n X dMO_nameFaults_53 rfl 3 rfl ?_
      refine g_bipush X (v := (15 : Int32)) dMO_nameFaults_54 (by decide) ?_
      refine g_aload_n X dMO_nameFaults_56 rfl 3 rfl ?_
      refine g_iload_n X dMO_nameFaults_57 rfl 2 rfl ?_
      refine g_iconst X (v := (5 : Int32)) dMO_nameFaults_58 (by decide) ?_
      refine g_callV X hK gTs_ok ly_41 rfl mw_MO_spotOf tw_1267 mi_MO_spotOf ms_MO_spotOf (As := [.int r1, .int (5 : Int32)]) rfl ⟨(Nat.le_of_ble_eq_true rfl), (Nat.le_of_ble_eq_true rfl), Nat.le_refl _, Nat.le_refl _⟩ (m_MO_spotOf h) (rest := [.int (15 : Int32), .ref (base + 41)]) rfl (Nat.le_of_ble_eq_true rfl) dMO_nameFaults_59 (gk_i (fun r37 M38 h => ?_))
      refine g_callV X hK gTs_ok ly_41 rfl mw_MO_fault tw_1243 mi_MO_fault ms_MO_fault (As := [.int (15 : Int32), .int r37]) rfl ⟨(Nat.le_of_ble_eq_true rfl), (Nat.le_of_ble_eq_true rfl), Nat.le_refl _, Nat.le_refl _⟩ (m_MO_fault h) (rest := []) rfl (Nat.le_of_ble_eq_true rfl) dMO_nameFaults_62 (gk_i (fun r39 M40 h => ?_))
      exact g_iret X hr hlk dMO_nameFaults_65 ⟨_, rfl, h⟩
  · have h := h.2 c
    refine g_aload_n X dMO_nameFaults_20 rfl 1 rfl ?_
    refine g_bipush X (v := (15 : Int32)) dMO_nameFaults_21 (by decide) ?_
    refine g_aload_n X dMO_nameFaults_23 rfl 1 rfl ?_
    refine g_iload_n X dMO_nameFaults_24 rfl 0 rfl ?_
    refine g_iconst X (v := (1 : Int32)) dMO_nameFaults_25 (by decide) ?_
    refine g_callV X hK gTs_ok ly_41 rfl mw_MO_spotOf tw_1267 mi_MO_spotOf ms_MO_spotOf (As := [.int r1, .int (1 : Int32)]) rfl ⟨(Nat.le_of_ble_eq_true rfl), (Nat.le_of_ble_eq_true rfl), Nat.le_refl _, Nat.le_refl _⟩ (m_MO_spotOf h) (rest := [.int (15 : Int32), .ref (base + 41)]) rfl (Nat.le_of_ble_eq_true rfl) dMO_nameFaults_26 (gk_i (fun r41 M42 h => ?_))
    refine g_callV X hK gTs_ok ly_41 rfl mw_MO_fault tw_1243 mi_MO_fault ms_MO_fault (As := [.int (15 : Int32), .int r41]) rfl ⟨(Nat.le_of_ble_eq_true rfl), (Nat.le_of_ble_eq_true rfl), Nat.le_refl _, Nat.le_refl _⟩ (m_MO_fault h) (rest := []) rfl (Nat.le_of_ble_eq_true rfl) dMO_nameFaults_29 (gk_i (fun r43 M44 h => ?_))
    exact g_iret X hr hlk dMO_nameFaults_32 ⟨_, rfl, h⟩
set_option maxRecDepth 100000 in
set_option maxHeartbeats 4000000 in
theorem m_MO_bytesOf {l : Launch} {D : va_G} {ta : Nat → ClassId} {base : Nat} {sa : Nat → Nat} {post : Int64 → gMem → Prop} {a0 : Int32} {M : gMem} (h : wp_MO_bytesOf post a0 M) : GC gLay gCl D ta base gNw sa gTabs gTs l y_MO_bytesOf b_MO_bytesOf 2 (some .long) 3 64 [.ref (base + 41), .int a0] M (gPl post) := by
  refine GC.of (own := "ObjectFileModel") pn_MO rfl (Nat.le_of_ble_eq_true rfl) ?_
  intro p e s m below meth c X hK hr hlk
  refine g_args (L' := [(0, .ref (base + 41)), (1, .int a0)]) rfl ?_
  unfold wp_MO_bytesOf at h
  refine g_aload_n X dMO_bytesOf_0 rfl 0 rfl ?_
  refine g_getr X hK.1 fw_MO_107 ly_41 rfl dMO_bytesOf_1 ?_
  refine g_iload_n X dMO_bytesOf_4 rfl 1 rfl ?_
  obtain ⟨hi, h⟩ := h
  refine g_iald X hK.1 ly_73 hi dMO_bytesOf_5 ?_
  refine g_if_ne X dMO_bytesOf_6 (fun c => ?_) (fun c => ?_)
  · have h := h.1 c
    refine g_aload_n X dMO_bytesOf_13 rfl 0 rfl ?_
    refine g_aload_n X dMO_bytesOf_14 rfl 0 rfl ?_
    refine g_getr X hK.1 fw_MO_107 ly_41 rfl dMO_bytesOf_15 ?_
    refine g_iload_n X dMO_bytesOf_18 rfl 1 rfl ?_
    obtain ⟨hi, h⟩ := h
    refine g_iald X hK.1 ly_73 hi dMO_bytesOf_19 ?_
    refine g_iconst X (v := (5 : Int32)) dMO_bytesOf_20 (by decide) ?_
    refine g_callV X hK gTs_ok ly_41 rfl mw_MO_told tw_1263 mi_MO_told ms_MO_told (As := [.int (M 73 (a0).toNatClampNeg), .int (5 : Int32)]) rfl ⟨(Nat.le_of_ble_eq_true rfl), (Nat.le_of_ble_eq_true rfl), Nat.le_refl _, Nat.le_refl _⟩ (m_MO_told h) (rest := []) rfl (Nat.le_of_ble_eq_true rfl) dMO_bytesOf_21 (gk_l (fun r1 M2 h => ?_))
    exact g_lret X hr hlk dMO_bytesOf_24 ⟨_, rfl, h⟩
  · have h := h.2 c
    refine g_lconst X (v := (0 : Int64)) dMO_bytesOf_9 (by decide) ?_
    refine g_goto X dMO_bytesOf_10 ?_
    exact g_lret X hr hlk dMO_bytesOf_24 ⟨_, rfl, h⟩
set_option maxRecDepth 100000 in
set_option maxHeartbeats 4000000 in
theorem m_MO_from {l : Launch} {D : va_G} {ta : Nat → ClassId} {base : Nat} {sa : Nat → Nat} {post : Int32 → gMem → Prop} {a0 : Int32} {M : gMem} (h : wp_MO_from post a0 M) : GC gLay gCl D ta base gNw sa gTabs gTs l y_MO_from b_MO_from 2 (some .int) 3 64 [.ref (base + 41), .int a0] M (gPi post) := by
  refine GC.of (own := "ObjectFileModel") pn_MO rfl (Nat.le_of_ble_eq_true rfl) ?_
  intro p e s m below meth c X hK hr hlk
  refine g_args (L' := [(0, .ref (base + 41)), (1, .int a0)]) rfl ?_
  unfold wp_MO_from at h
  refine g_aload_n X dMO_from_0 rfl 0 rfl ?_
  refine g_getr X hK.1 fw_MO_107 ly_41 rfl dMO_from_1 ?_
  refine g_iload_n X dMO_from_4 rfl 1 rfl ?_
  obtain ⟨hi, h⟩ := h
  refine g_iald X hK.1 ly_73 hi dMO_from_5 ?_
  refine g_if_ne X dMO_from_6 (fun c => ?_) (fun c => ?_)
  · have h := h.1 c
    refine g_aload_n X dMO_from_13 rfl 0 rfl ?_
    refine g_aload_n X dMO_from_14 rfl 0 rfl ?_
    refine g_getr X hK.1 fw_MO_107 ly_41 rfl dMO_from_15 ?_
    refine g_iload_n X dMO_from_18 rfl 1 rfl ?_
    obtain ⟨hi, h⟩ := h
    refine g_iald X hK.1 ly_73 hi dMO_from_19 ?_
    refine g_iconst X (v := (4 : Int32)) dMO_from_20 (by decide) ?_
    refine g_callV X hK gTs_ok ly_41 rfl mw_MO_told tw_1263 mi_MO_told ms_MO_told (As := [.int (M 73 (a0).toNatClampNeg), .int (4 : Int32)]) rfl ⟨(Nat.le_of_ble_eq_true rfl), (Nat.le_of_ble_eq_true rfl), Nat.le_refl _, Nat.le_refl _⟩ (m_MO_told h) (rest := []) rfl (Nat.le_of_ble_eq_true rfl) dMO_from_21 (gk_l (fun r1 M2 h => ?_))
    refine g_l2i X dMO_from_24 rfl ?_
    exact g_iret X hr hlk dMO_from_25 ⟨_, rfl, h⟩
  · have h := h.2 c
    refine g_iconst X (v := (0 : Int32)) dMO_from_9 (by decide) ?_
    refine g_goto X dMO_from_10 ?_
    exact g_iret X hr hlk dMO_from_25 ⟨_, rfl, h⟩
set_option maxRecDepth 100000 in
set_option maxHeartbeats 4000000 in
theorem m_MO_sizeFaults {l : Launch} {D : va_G} {ta : Nat → ClassId} {base : Nat} {sa : Nat → Nat} {post : Int32 → gMem → Prop} {M : gMem} (h : wp_MO_sizeFaults post M) : GC gLay gCl D ta base gNw sa gTabs gTs l y_MO_sizeFaults b_MO_sizeFaults 9 (some .int) 4 85 [.ref (base + 41)] M (gPi post) := by
  refine GC.of (own := "ObjectFileModel") pn_MO rfl (Nat.le_of_ble_eq_true rfl) ?_
  intro p e s m below meth c X hK hr hlk
  have r_274 : ∀ (k59 : Int64 → Int32 → gMem → Prop) (hk59 : ∀ (v1 : Int64) (v3 : Int32) (M : gMem), k59 v1 v3 M → GMx D ta base p l e 4 85 s m [.ref (base + 41)] below meth c (gPi post) 9 59 [(0, .ref (base + 41)), (1, .long v1), (3, .int v3)] [] M) (v1 : Int64) (v3 : Int32) (s0 : Int32) (M : gMem), wj_MO_sizeFaults_274 post k59 v1 v3 s0 M → GMx D ta base p l e 4 85 s m [.ref (base + 41)] below meth c (gPi post) 9 274 [(0, .ref (base + 41)), (1, .long v1), (3, .int v3)] [.int s0] M := by
    intro k59 hk59 v1 v3 s0 M h
    unfold wj_MO_sizeFaults_274 at h
    refine g_istore X (L' := [(8, .int s0), (0, .ref (base + 41)), (1, .long v1), (3, .int v3)]) dMO_sizeFaults_274 (Nat.le_of_ble_eq_true rfl) rfl ?_
    refine g_iload X dMO_sizeFaults_276 0 rfl ?_
    refine g_if_ne X dMO_sizeFaults_278 (fun c => ?_) (fun c => ?_)
    · have h := h.1 c
      obtain ⟨x32, ex32⟩ : ∃ z : Int32, z = v3 + (1 : Int32) := ⟨_, rfl⟩
      have h := h x32 ex32
      refine g_iinc X (L' := [(3, .int x32), (8, .int s0), (0, .ref (base + 41)), (1, .long v1)]) (k := 3) dMO_sizeFaults_294 rfl (v := x32) (by rw [ex32]; rfl) (Nat.le_of_ble_eq_true rfl) rfl ?_
      refine g_goto X dMO_sizeFaults_297 ?_
      refine g_sub (L' := [(0, .ref (base + 41)), (1, .long v1), (3, .int x32)]) [2, 3, 0] rfl ?_
      exact hk59 v1 x32 M h
    · have h := h.2 c
      refine g_aload_n X dMO_sizeFaults_281 rfl 1 rfl ?_
      refine g_bipush X (v := (19 : Int32)) dMO_sizeFaults_282 (by decide) ?_
      refine g_aload_n X dMO_sizeFaults_284 rfl 1 rfl ?_
      refine g_iload_n X dMO_sizeFaults_285 rfl 3 rfl ?_
      refine g_iconst X (v := (5 : Int32)) dMO_sizeFaults_286 (by decide) ?_
      refine g_callV X hK gTs_ok ly_41 rfl mw_MO_spotOf tw_1267 mi_MO_spotOf ms_MO_spotOf (As := [.int v3, .int (5 : Int32)]) rfl ⟨(Nat.le_of_ble_eq_true rfl), (Nat.le_of_ble_eq_true rfl), Nat.le_refl _, Nat.le_refl _⟩ (m_MO_spotOf h) (rest := [.int (19 : Int32), .ref (base + 41)]) rfl (Nat.le_of_ble_eq_true rfl) dMO_sizeFaults_287 (gk_i (fun r33 M34 h => ?_))
      refine g_callV X hK gTs_ok ly_41 rfl mw_MO_fault tw_1243 mi_MO_fault ms_MO_fault (As := [.int (19 : Int32), .int r33]) rfl ⟨(Nat.le_of_ble_eq_true rfl), (Nat.le_of_ble_eq_true rfl), Nat.le_refl _, Nat.le_refl _⟩ (m_MO_fault h) (rest := []) rfl (Nat.le_of_ble_eq_true rfl) dMO_sizeFaults_290 (gk_i (fun r35 M36 h => ?_))
      exact g_iret X hr hlk dMO_sizeFaults_293 ⟨_, rfl, h⟩
  have r_269 : ∀ (k59 : Int64 → Int32 → gMem → Prop) (hk59 : ∀ (v1 : Int64) (v3 : Int32) (M : gMem), k59 v1 v3 M → GMx D ta base p l e 4 85 s m [.ref (base + 41)] below meth c (gPi post) 9 59 [(0, .ref (base + 41)), (1, .long v1), (3, .int v3)] [] M) (v1 : Int64) (v3 : Int32) (M : gMem), wj_MO_sizeFaults_269 post k59 v1 v3 M → GMx D ta base p l e 4 85 s m [.ref (base + 41)] below meth c (gPi post) 9 269 [(0, .ref (base + 41)), (1, .long v1), (3, .int v3)] [] M := by
    intro k59 hk59 v1 v3 M h
    unfold wj_MO_sizeFaults_269 at h
    refine g_iconst X (v := (1 : Int32)) dMO_sizeFaults_269 (by decide) ?_
    refine g_goto X dMO_sizeFaults_270 ?_
    exact r_274 _ hk59 v1 v3 (1 : Int32) M h
  have r_273 : ∀ (k59 : Int64 → Int32 → gMem → Prop) (hk59 : ∀ (v1 : Int64) (v3 : Int32) (M : gMem), k59 v1 v3 M → GMx D ta base p l e 4 85 s m [.ref (base + 41)] below meth c (gPi post) 9 59 [(0, .ref (base + 41)), (1, .long v1), (3, .int v3)] [] M) (v1 : Int64) (v3 : Int32) (M : gMem), wj_MO_sizeFaults_273 post k59 v1 v3 M → GMx D ta base p l e 4 85 s m [.ref (base + 41)] below meth c (gPi post) 9 273 [(0, .ref (base + 41)), (1, .long v1), (3, .int v3)] [] M := by
    intro k59 hk59 v1 v3 M h
    unfold wj_MO_sizeFaults_273 at h
    refine g_iconst X (v := (0 : Int32)) dMO_sizeFaults_273 (by decide) ?_
    exact r_274 _ hk59 v1 v3 (0 : Int32) M h
  have r_229 : ∀ (k59 : Int64 → Int32 → gMem → Prop) (hk59 : ∀ (v1 : Int64) (v3 : Int32) (M : gMem), k59 v1 v3 M → GMx D ta base p l e 4 85 s m [.ref (base + 41)] below meth c (gPi post) 9 59 [(0, .ref (base + 41)), (1, .long v1), (3, .int v3)] [] M) (v1 : Int64) (v3 : Int32) (M : gMem), wj_MO_sizeFaults_229 post k59 v1 v3 M → GMx D ta base p l e 4 85 s m [.ref (base + 41)] below meth c (gPi post) 9 229 [(0, .ref (base + 41)), (1, .long v1), (3, .int v3)] [] M := by
    intro k59 hk59 v1 v3 M h
    unfold wj_MO_sizeFaults_229 at h
    refine g_iconst X (v := (0 : Int32)) dMO_sizeFaults_229 (by decide) ?_
    refine g_goto X dMO_sizeFaults_230 ?_
    exact r_274 _ hk59 v1 v3 (0 : Int32) M h
  have r_197 : ∀ (k59 : Int64 → Int32 → gMem → Prop) (hk59 : ∀ (v1 : Int64) (v3 : Int32) (M : gMem), k59 v1 v3 M → GMx D ta base p l e 4 85 s m [.ref (base + 41)] below meth c (gPi post) 9 59 [(0, .ref (base + 41)), (1, .long v1), (3, .int v3)] [] M) (v1 : Int64) (v3 : Int32) (M : gMem), wj_MO_sizeFaults_197 post k59 v1 v3 M → GMx D ta base p l e 4 85 s m [.ref (base + 41)] below meth c (gPi post) 9 197 [(0, .ref (base + 41)), (1, .long v1), (3, .int v3)] [] M := by
    intro k59 hk59 v1 v3 M h
    unfold wj_MO_sizeFaults_197 at h
    refine g_iconst X (v := (0 : Int32)) dMO_sizeFaults_197 (by decide) ?_
    refine g_goto X dMO_sizeFaults_198 ?_
    exact r_274 _ hk59 v1 v3 (0 : Int32) M h
  have r_119 : ∀ (k59 : Int64 → Int32 → gMem → Prop) (hk59 : ∀ (v1 : Int64) (v3 : Int32) (M : gMem), k59 v1 v3 M → GMx D ta base p l e 4 85 s m [.ref (base + 41)] below meth c (gPi post) 9 59 [(0, .ref (base + 41)), (1, .long v1), (3, .int v3)] [] M) (v3 : Int32) (v4 : Int32) (v5 : Int64) (v7 : Int32) (s0 : Int64) (s1 : Int64) (M : gMem), wj_MO_sizeFaults_119 post k59 v3 v4 v5 v7 s0 s1 M → GMx D ta base p l e 4 85 s m [.ref (base + 41)] below meth c (gPi post) 9 119 [(0, .ref (base + 41)), (3, .int v3), (4, .int v4), (5, .long v5), (7, .int v7)] [.long s0, .long s1] M := by
    intro k59 hk59 v3 v4 v5 v7 s0 s1 M h
    unfold wj_MO_sizeFaults_119 at h
    refine g_ladd X dMO_sizeFaults_119 ?_
    refine g_topl (fun x31 ex31 => ?_)
    have h := h x31 ex31
    refine g_lstore_n X (L' := [(1, .long x31), (0, .ref (base + 41)), (3, .int v3), (4, .int v4), (5, .long v5), (7, .int v7)]) dMO_sizeFaults_120 rfl (Nat.le_of_ble_eq_true rfl) rfl ?_
    refine g_iload X dMO_sizeFaults_121 3 rfl ?_
    refine g_iconst X (v := (3 : Int32)) dMO_sizeFaults_123 (by decide) ?_
    refine g_icmp_ge X dMO_sizeFaults_124 (fun c => ?_) (fun c => ?_)
    · have h := h.1 c
      refine g_iload X dMO_sizeFaults_144 3 rfl ?_
      refine g_iconst X (v := (3 : Int32)) dMO_sizeFaults_146 (by decide) ?_
      refine g_icmp_ne X dMO_sizeFaults_147 (fun c => ?_) (fun c => ?_)
      · have h := h.1 c
        refine g_iload X dMO_sizeFaults_167 3 rfl ?_
        refine g_iconst X (v := (4 : Int32)) dMO_sizeFaults_169 (by decide) ?_
        refine g_icmp_ne X dMO_sizeFaults_170 (fun c => ?_) (fun c => ?_)
        · have h := h.1 c
          refine g_iload X dMO_sizeFaults_201 5 rfl ?_
          refine g_if_eq X dMO_sizeFaults_203 (fun c => ?_) (fun c => ?_)
          · have h := h.1 c
            refine g_iload X dMO_sizeFaults_233 3 rfl ?_
            refine g_bipush X (v := (8 : Int32)) dMO_sizeFaults_235 (by decide) ?_
            refine g_icmp_ne X dMO_sizeFaults_237 (fun c => ?_) (fun c => ?_)
            · have h := h.1 c
              refine g_sub (L' := [(0, .ref (base + 41)), (1, .long x31), (3, .int v3)]) [1, 0, 2] rfl ?_
              exact r_269 _ hk59 x31 v3 M h
            · have h := h.2 c
              refine g_lload X dMO_sizeFaults_240 4 rfl ?_
              refine g_ldc2 X (v := (16 : Int64)) (tw_1297) dMO_sizeFaults_242 ?_
              refine g_lrem X dMO_sizeFaults_245 (by decide) ?_
              refine g_lconst X (v := (0 : Int64)) dMO_sizeFaults_246 (by decide) ?_
              refine g_lif_ne X dMO_sizeFaults_247 dMO_sizeFaults_248 (fun c => ?_) (fun c => ?_)
              · have h := h.1 c
                refine g_sub (L' := [(0, .ref (base + 41)), (1, .long x31), (3, .int v3)]) [1, 0, 2] rfl ?_
                exact r_273 _ hk59 x31 v3 M h
              · have h := h.2 c
                refine g_lload X dMO_sizeFaults_251 4 rfl ?_
                refine g_ldc2 X (v := (16 : Int64)) (tw_1297) dMO_sizeFaults_253 ?_
                refine g_lif_lt X dMO_sizeFaults_256 dMO_sizeFaults_257 (fun c => ?_) (fun c => ?_)
                · have h := h.1 c
                  refine g_sub (L' := [(0, .ref (base + 41)), (1, .long x31), (3, .int v3)]) [1, 0, 2] rfl ?_
                  exact r_273 _ hk59 x31 v3 M h
                · have h := h.2 c
                  refine g_lload X dMO_sizeFaults_260 4 rfl ?_
                  refine g_ldc2 X (v := (1616 : Int64)) (tw_1298) dMO_sizeFaults_262 ?_
                  refine g_lif_gt X dMO_sizeFaults_265 dMO_sizeFaults_266 (fun c => ?_) (fun c => ?_)
                  · have h := h.1 c
                    refine g_sub (L' := [(0, .ref (base + 41)), (1, .long x31), (3, .int v3)]) [1, 0, 2] rfl ?_
                    exact r_273 _ hk59 x31 v3 M h
                  · have h := h.2 c
                    refine g_sub (L' := [(0, .ref (base + 41)), (1, .long x31), (3, .int v3)]) [1, 0, 2] rfl ?_
                    exact r_269 _ hk59 x31 v3 M h
          · have h := h.2 c
            refine g_lload X dMO_sizeFaults_206 4 rfl ?_
            refine g_ldc2 X (v := (12 : Int64)) (tw_1293) dMO_sizeFaults_208 ?_
            refine g_lrem X dMO_sizeFaults_211 (by decide) ?_
            refine g_lconst X (v := (0 : Int64)) dMO_sizeFaults_212 (by decide) ?_
            refine g_lif_ne X dMO_sizeFaults_213 dMO_sizeFaults_214 (fun c => ?_) (fun c => ?_)
            · have h := h.1 c
              refine g_sub (L' := [(0, .ref (base + 41)), (1, .long x31), (3, .int v3)]) [1, 0, 2] rfl ?_
              exact r_229 _ hk59 x31 v3 M h
            · have h := h.2 c
              refine g_lload_n X dMO_sizeFaults_217 rfl 0 rfl ?_
              refine g_ldc2 X (v := (300 : Int64)) (tw_1296) dMO_sizeFaults_218 ?_
              refine g_lif_gt X dMO_sizeFaults_221 dMO_sizeFaults_222 (fun c => ?_) (fun c => ?_)
              · have h := h.1 c
                refine g_sub (L' := [(0, .ref (base + 41)), (1, .long x31), (3, .int v3)]) [1, 0, 2] rfl ?_
                exact r_229 _ hk59 x31 v3 M h
              · have h := h.2 c
                refine g_iconst X (v := (1 : Int32)) dMO_sizeFaults_225 (by decide) ?_
                refine g_goto X dMO_sizeFaults_226 ?_
                refine g_sub (L' := [(0, .ref (base + 41)), (1, .long x31), (3, .int v3)]) [1, 0, 2] rfl ?_
                exact r_274 _ hk59 x31 v3 (1 : Int32) M h
        · have h := h.2 c
          refine g_lload X dMO_sizeFaults_173 4 rfl ?_
          refine g_ldc2 X (v := (2048 : Int64)) (tw_1294) dMO_sizeFaults_175 ?_
          refine g_lif_gt X dMO_sizeFaults_178 dMO_sizeFaults_179 (fun c => ?_) (fun c => ?_)
          · have h := h.1 c
            refine g_sub (L' := [(0, .ref (base + 41)), (1, .long x31), (3, .int v3)]) [1, 0, 2] rfl ?_
            exact r_197 _ hk59 x31 v3 M h
          · have h := h.2 c
            refine g_lload X dMO_sizeFaults_182 4 rfl ?_
            refine g_ldc2 X (v := (2 : Int64)) (tw_1120) dMO_sizeFaults_184 ?_
            refine g_lrem X dMO_sizeFaults_187 (by decide) ?_
            refine g_lconst X (v := (0 : Int64)) dMO_sizeFaults_188 (by decide) ?_
            refine g_lif_ne X dMO_sizeFaults_189 dMO_sizeFaults_190 (fun c => ?_) (fun c => ?_)
            · have h := h.1 c
              refine g_sub (L' := [(0, .ref (base + 41)), (1, .long x31), (3, .int v3)]) [1, 0, 2] rfl ?_
              exact r_197 _ hk59 x31 v3 M h
            · have h := h.2 c
              refine g_iconst X (v := (1 : Int32)) dMO_sizeFaults_193 (by decide) ?_
              refine g_goto X dMO_sizeFaults_194 ?_
              refine g_sub (L' := [(0, .ref (base + 41)), (1, .long x31), (3, .int v3)]) [1, 0, 2] rfl ?_
              exact r_274 _ hk59 x31 v3 (1 : Int32) M h
      · have h := h.2 c
        refine g_lload X dMO_sizeFaults_150 4 rfl ?_
        refine g_ldc2 X (v := (4096 : Int64)) (tw_1295) dMO_sizeFaults_152 ?_
        refine g_lif_gt X dMO_sizeFaults_155 dMO_sizeFaults_156 (fun c => ?_) (fun c => ?_)
        · have h := h.1 c
          refine g_iconst X (v := (0 : Int32)) dMO_sizeFaults_163 (by decide) ?_
          refine g_goto X dMO_sizeFaults_164 ?_
          refine g_sub (L' := [(0, .ref (base + 41)), (1, .long x31), (3, .int v3)]) [1, 0, 2] rfl ?_
          exact r_274 _ hk59 x31 v3 (0 : Int32) M h
        · have h := h.2 c
          refine g_iconst X (v := (1 : Int32)) dMO_sizeFaults_159 (by decide) ?_
          refine g_goto X dMO_sizeFaults_160 ?_
          refine g_sub (L' := [(0, .ref (base + 41)), (1, .long x31), (3, .int v3)]) [1, 0, 2] rfl ?_
          exact r_274 _ hk59 x31 v3 (1 : Int32) M h
    · have h := h.2 c
      refine g_lload X dMO_sizeFaults_127 4 rfl ?_
      refine g_ldc2 X (v := (2048 : Int64)) (tw_1294) dMO_sizeFaults_129 ?_
      refine g_lif_gt X dMO_sizeFaults_132 dMO_sizeFaults_133 (fun c => ?_) (fun c => ?_)
      · have h := h.1 c
        refine g_iconst X (v := (0 : Int32)) dMO_sizeFaults_140 (by decide) ?_
        refine g_goto X dMO_sizeFaults_141 ?_
        refine g_sub (L' := [(0, .ref (base + 41)), (1, .long x31), (3, .int v3)]) [1, 0, 2] rfl ?_
        exact r_274 _ hk59 x31 v3 (0 : Int32) M h
      · have h := h.2 c
        refine g_iconst X (v := (1 : Int32)) dMO_sizeFaults_136 (by decide) ?_
        refine g_goto X dMO_sizeFaults_137 ?_
        refine g_sub (L' := [(0, .ref (base + 41)), (1, .long x31), (3, .int v3)]) [1, 0, 2] rfl ?_
        exact r_274 _ hk59 x31 v3 (1 : Int32) M h
  have r_101 : ∀ (k59 : Int64 → Int32 → gMem → Prop) (hk59 : ∀ (v1 : Int64) (v3 : Int32) (M : gMem), k59 v1 v3 M → GMx D ta base p l e 4 85 s m [.ref (base + 41)] below meth c (gPi post) 9 59 [(0, .ref (base + 41)), (1, .long v1), (3, .int v3)] [] M) (v1 : Int64) (v3 : Int32) (v4 : Int32) (v5 : Int64) (s0 : Int32) (M : gMem), wj_MO_sizeFaults_101 post k59 v1 v3 v4 v5 s0 M → GMx D ta base p l e 4 85 s m [.ref (base + 41)] below meth c (gPi post) 9 101 [(0, .ref (base + 41)), (1, .long v1), (3, .int v3), (4, .int v4), (5, .long v5)] [.int s0] M := by
    intro k59 hk59 v1 v3 v4 v5 s0 M h
    unfold wj_MO_sizeFaults_101 at h
    refine g_istore X (L' := [(7, .int s0), (0, .ref (base + 41)), (1, .long v1), (3, .int v3), (4, .int v4), (5, .long v5)]) dMO_sizeFaults_101 (Nat.le_of_ble_eq_true rfl) rfl ?_
    refine g_lload_n X dMO_sizeFaults_103 rfl 2 rfl ?_
    refine g_iload X dMO_sizeFaults_104 0 rfl ?_
    refine g_if_eq X dMO_sizeFaults_106 (fun c => ?_) (fun c => ?_)
    · have h := h.1 c
      refine g_lconst X (v := (0 : Int64)) dMO_sizeFaults_118 (by decide) ?_
      refine g_sub (L' := [(0, .ref (base + 41)), (3, .int v3), (4, .int v4), (5, .long v5), (7, .int s0)]) [1, 3, 4, 5, 0] rfl ?_
      exact r_119 _ hk59 v3 v4 v5 s0 (0 : Int64) v1 M h
    · have h := h.2 c
      refine g_lload X dMO_sizeFaults_109 5 rfl ?_
      refine g_ldc2 X (v := (12 : Int64)) (tw_1293) dMO_sizeFaults_111 ?_
      refine g_ldiv X dMO_sizeFaults_114 (by decide) ?_
      refine g_goto X dMO_sizeFaults_115 ?_
      refine g_sub (L' := [(0, .ref (base + 41)), (3, .int v3), (4, .int v4), (5, .long v5), (7, .int s0)]) [1, 3, 4, 5, 0] rfl ?_
      exact r_119 _ hk59 v3 v4 v5 s0 (v5 / (12 : Int64)) v1 M h
  have r_100 : ∀ (k59 : Int64 → Int32 → gMem → Prop) (hk59 : ∀ (v1 : Int64) (v3 : Int32) (M : gMem), k59 v1 v3 M → GMx D ta base p l e 4 85 s m [.ref (base + 41)] below meth c (gPi post) 9 59 [(0, .ref (base + 41)), (1, .long v1), (3, .int v3)] [] M) (v1 : Int64) (v3 : Int32) (v4 : Int32) (v5 : Int64) (M : gMem), wj_MO_sizeFaults_100 post k59 v1 v3 v4 v5 M → GMx D ta base p l e 4 85 s m [.ref (base + 41)] below meth c (gPi post) 9 100 [(0, .ref (base + 41)), (1, .long v1), (3, .int v3), (4, .int v4), (5, .long v5)] [] M := by
    intro k59 hk59 v1 v3 v4 v5 M h
    unfold wj_MO_sizeFaults_100 at h
    refine g_iconst X (v := (0 : Int32)) dMO_sizeFaults_100 (by decide) ?_
    exact r_101 _ hk59 v1 v3 v4 v5 (0 : Int32) M h
  have r_59 : ∀ (n : Nat) (v1 : Int64) (v3 : Int32) (M : gMem), wl_MO_sizeFaults_59 post n v1 v3 M → GMx D ta base p l e 4 85 s m [.ref (base + 41)] below meth c (gPi post) 9 59 [(0, .ref (base + 41)), (1, .long v1), (3, .int v3)] [] M := by
    intro n
    induction n with
    | zero => exact fun _ _ M h => h.elim
    | succ n ih =>
      intro v1 v3 M h
      refine g_iload_n X dMO_sizeFaults_59 rfl 2 rfl ?_
      refine g_aload_n X dMO_sizeFaults_60 rfl 0 rfl ?_
      refine g_geti X hK.1 fw_MO_195 ly_41 rfl dMO_sizeFaults_61 ?_
      refine g_icmp_ge X dMO_sizeFaults_64 (fun c => ?_) (fun c => ?_)
      · have h := h.1 c
        refine g_aload_n X dMO_sizeFaults_300 rfl 0 rfl ?_
        refine g_bipush X (v := (9 : Int32)) dMO_sizeFaults_301 (by decide) ?_
        refine g_callV X hK gTs_ok ly_41 rfl mw_MO_bytesOf tw_1299 mi_MO_bytesOf ms_MO_bytesOf (As := [.int (9 : Int32)]) rfl ⟨(Nat.le_of_ble_eq_true rfl), (Nat.le_of_ble_eq_true rfl), Nat.le_refl _, Nat.le_refl _⟩ (m_MO_bytesOf h) (rest := []) rfl (Nat.le_of_ble_eq_true rfl) dMO_sizeFaults_303 (gk_l (fun r9 M10 h => ?_))
        refine g_l2i X dMO_sizeFaults_306 rfl ?_
        refine g_topi (fun x11 ex11 => ?_)
        have h := h x11 ex11
        refine g_istore_n X (L' := [(3, .int x11), (0, .ref (base + 41)), (1, .long v1)]) dMO_sizeFaults_307 rfl (Nat.le_of_ble_eq_true rfl) rfl ?_
        refine g_iload_n X dMO_sizeFaults_308 rfl 0 rfl ?_
        refine g_if_ne X dMO_sizeFaults_309 (fun c => ?_) (fun c => ?_)
        · have h := h.1 c
          refine g_aload_n X dMO_sizeFaults_331 rfl 1 rfl ?_
          refine g_getr X hK.1 fw_MO_70 ly_41 rfl dMO_sizeFaults_332 ?_
          refine g_aload_n X dMO_sizeFaults_335 rfl 1 rfl ?_
          refine g_bipush X (v := (9 : Int32)) dMO_sizeFaults_336 (by decide) ?_
          refine g_callV X hK gTs_ok ly_41 rfl mw_MO_from tw_1303 mi_MO_from ms_MO_from (As := [.int (9 : Int32)]) rfl ⟨(Nat.le_of_ble_eq_true rfl), (Nat.le_of_ble_eq_true rfl), Nat.le_refl _, Nat.le_refl _⟩ (m_MO_from h) (rest := [.ref (base + 62)]) rfl (Nat.le_of_ble_eq_true rfl) dMO_sizeFaults_338 (gk_i (fun r12 M13 h => ?_))
          obtain ⟨hi, h⟩ := h
          refine g_iald X hK.1 ly_62 hi dMO_sizeFaults_341 ?_
          refine g_if_eq X dMO_sizeFaults_342 (fun c => ?_) (fun c => ?_)
          · have h := h.1 c
            refine g_aload_n X dMO_sizeFaults_358 rfl 1 rfl ?_
            refine g_getr X hK.1 fw_MO_70 ly_41 rfl dMO_sizeFaults_359 ?_
            refine g_aload_n X dMO_sizeFaults_362 rfl 1 rfl ?_
            refine g_bipush X (v := (9 : Int32)) dMO_sizeFaults_363 (by decide) ?_
            refine g_callV X hK gTs_ok ly_41 rfl mw_MO_from tw_1303 mi_MO_from ms_MO_from (As := [.int (9 : Int32)]) rfl ⟨(Nat.le_of_ble_eq_true rfl), (Nat.le_of_ble_eq_true rfl), Nat.le_refl _, Nat.le_refl _⟩ (m_MO_from h) (rest := [.ref (base + 62)]) rfl (Nat.le_of_ble_eq_true rfl) dMO_sizeFaults_365 (gk_i (fun r14 M15 h => ?_))
            refine g_iload_n X dMO_sizeFaults_368 rfl 0 rfl ?_
            refine g_iadd X dMO_sizeFaults_369 ?_
            refine g_iconst X (v := (1 : Int32)) dMO_sizeFaults_370 (by decide) ?_
            refine g_isub X dMO_sizeFaults_371 ?_
            obtain ⟨hi, h⟩ := h
            refine g_iald X hK.1 ly_62 hi dMO_sizeFaults_372 ?_
            refine g_if_eq X dMO_sizeFaults_373 (fun c => ?_) (fun c => ?_)
            · have h := h.1 c
              refine g_iconst X (v := (0 : Int32)) dMO_sizeFaults_395 (by decide) ?_
              exact g_iret X hr hlk dMO_sizeFaults_396 ⟨_, rfl, h⟩
            · have h := h.2 c
              refine g_aload_n X dMO_sizeFaults_376 rfl 1 rfl ?_
              refine g_bipush X (v := (20 : Int32)) dMO_sizeFaults_377 (by decide) ?_
              refine g_aload_n X dMO_sizeFaults_379 rfl 1 rfl ?_
              refine g_bipush X (v := (9 : Int32)) dMO_sizeFaults_380 (by decide) ?_
              refine g_callV X hK gTs_ok ly_41 rfl mw_MO_from tw_1303 mi_MO_from ms_MO_from (As := [.int (9 : Int32)]) rfl ⟨(Nat.le_of_ble_eq_true rfl), (Nat.le_of_ble_eq_true rfl), Nat.le_refl _, Nat.le_refl _⟩ (m_MO_from h) (rest := [.int (20 : Int32), .ref (base + 41)]) rfl (Nat.le_of_ble_eq_true rfl) dMO_sizeFaults_382 (gk_i (fun r16 M17 h => ?_))
              refine g_iload_n X dMO_sizeFaults_385 rfl 0 rfl ?_
              refine g_iadd X dMO_sizeFaults_386 ?_
              refine g_iconst X (v := (1 : Int32)) dMO_sizeFaults_387 (by decide) ?_
              refine g_isub X dMO_sizeFaults_388 ?_
              refine g_callV X hK gTs_ok ly_41 rfl mw_MO_fault tw_1243 mi_MO_fault ms_MO_fault (As := [.int (20 : Int32), .int ((r16 + x11) - (1 : Int32))]) rfl ⟨(Nat.le_of_ble_eq_true rfl), (Nat.le_of_ble_eq_true rfl), Nat.le_refl _, Nat.le_refl _⟩ (m_MO_fault h) (rest := []) rfl (Nat.le_of_ble_eq_true rfl) dMO_sizeFaults_389 (gk_i (fun r18 M19 h => ?_))
              refine g_goto X dMO_sizeFaults_392 ?_
              exact g_iret X hr hlk dMO_sizeFaults_396 ⟨_, rfl, h⟩
          · have h := h.2 c
            refine g_aload_n X dMO_sizeFaults_345 rfl 1 rfl ?_
            refine g_bipush X (v := (20 : Int32)) dMO_sizeFaults_346 (by decide) ?_
            refine g_aload_n X dMO_sizeFaults_348 rfl 1 rfl ?_
            refine g_bipush X (v := (9 : Int32)) dMO_sizeFaults_349 (by decide) ?_
            refine g_callV X hK gTs_ok ly_41 rfl mw_MO_from tw_1303 mi_MO_from ms_MO_from (As := [.int (9 : Int32)]) rfl ⟨(Nat.le_of_ble_eq_true rfl), (Nat.le_of_ble_eq_true rfl), Nat.le_refl _, Nat.le_refl _⟩ (m_MO_from h) (rest := [.int (20 : Int32), .ref (base + 41)]) rfl (Nat.le_of_ble_eq_true rfl) dMO_sizeFaults_351 (gk_i (fun r20 M21 h => ?_))
            refine g_callV X hK gTs_ok ly_41 rfl mw_MO_fault tw_1243 mi_MO_fault ms_MO_fault (As := [.int (20 : Int32), .int r20]) rfl ⟨(Nat.le_of_ble_eq_true rfl), (Nat.le_of_ble_eq_true rfl), Nat.le_refl _, Nat.le_refl _⟩ (m_MO_fault h) (rest := []) rfl (Nat.le_of_ble_eq_true rfl) dMO_sizeFaults_354 (gk_i (fun r22 M23 h => ?_))
            exact g_iret X hr hlk dMO_sizeFaults_357 ⟨_, rfl, h⟩
        · have h := h.2 c
          refine g_aload_n X dMO_sizeFaults_312 rfl 1 rfl ?_
          refine g_bipush X (v := (20 : Int32)) dMO_sizeFaults_313 (by decide) ?_
          refine g_aload_n X dMO_sizeFaults_315 rfl 1 rfl ?_
          refine g_aload_n X dMO_sizeFaults_316 rfl 1 rfl ?_
          refine g_getr X hK.1 fw_MO_107 ly_41 rfl dMO_sizeFaults_317 ?_
          refine g_bipush X (v := (9 : Int32)) dMO_sizeFaults_320 (by decide) ?_
          obtain ⟨hi, h⟩ := h
          refine g_iald X hK.1 ly_73 hi dMO_sizeFaults_322 ?_
          refine g_iconst X (v := (5 : Int32)) dMO_sizeFaults_323 (by decide) ?_
          refine g_callV X hK gTs_ok ly_41 rfl mw_MO_spotOf tw_1267 mi_MO_spotOf ms_MO_spotOf (As := [.int (M10 73 ((9 : Int32)).toNatClampNeg), .int (5 : Int32)]) rfl ⟨(Nat.le_of_ble_eq_true rfl), (Nat.le_of_ble_eq_true rfl), Nat.le_refl _, Nat.le_refl _⟩ (m_MO_spotOf h) (rest := [.int (20 : Int32), .ref (base + 41)]) rfl (Nat.le_of_ble_eq_true rfl) dMO_sizeFaults_324 (gk_i (fun r24 M25 h => ?_))
          refine g_callV X hK gTs_ok ly_41 rfl mw_MO_fault tw_1243 mi_MO_fault ms_MO_fault (As := [.int (20 : Int32), .int r24]) rfl ⟨(Nat.le_of_ble_eq_true rfl), (Nat.le_of_ble_eq_true rfl), Nat.le_refl _, Nat.le_refl _⟩ (m_MO_fault h) (rest := []) rfl (Nat.le_of_ble_eq_true rfl) dMO_sizeFaults_327 (gk_i (fun r26 M27 h => ?_))
          exact g_iret X hr hlk dMO_sizeFaults_330 ⟨_, rfl, h⟩
      · have h := h.2 c
        refine g_aload_n X dMO_sizeFaults_67 rfl 0 rfl ?_
        refine g_getr X hK.1 fw_MO_110 ly_41 rfl dMO_sizeFaults_68 ?_
        refine g_iload_n X dMO_sizeFaults_71 rfl 2 rfl ?_
        obtain ⟨hi, h⟩ := h
        refine g_iald X hK.1 ly_74 hi dMO_sizeFaults_72 ?_
        refine g_topi (fun x28 ex28 => ?_)
        have h := h x28 ex28
        refine g_istore X (L' := [(4, .int x28), (0, .ref (base + 41)), (1, .long v1), (3, .int v3)]) dMO_sizeFaults_73 (Nat.le_of_ble_eq_true rfl) rfl ?_
        refine g_aload_n X dMO_sizeFaults_75 rfl 1 rfl ?_
        refine g_iload_n X dMO_sizeFaults_76 rfl 3 rfl ?_
        refine g_iconst X (v := (5 : Int32)) dMO_sizeFaults_77 (by decide) ?_
        refine g_callV X hK gTs_ok ly_41 rfl mw_MO_told tw_1263 mi_MO_told ms_MO_told (As := [.int v3, .int (5 : Int32)]) rfl ⟨(Nat.le_of_ble_eq_true rfl), (Nat.le_of_ble_eq_true rfl), Nat.le_refl _, Nat.le_refl _⟩ (m_MO_told h) (rest := []) rfl (Nat.le_of_ble_eq_true rfl) dMO_sizeFaults_78 (gk_l (fun r29 M30 h => ?_))
        refine g_lstore X (L' := [(5, .long r29), (4, .int x28), (0, .ref (base + 41)), (1, .long v1), (3, .int v3)]) dMO_sizeFaults_81 (Nat.le_of_ble_eq_true rfl) rfl ?_
        refine g_iload X dMO_sizeFaults_83 1 rfl ?_
        refine g_iconst X (v := (5 : Int32)) dMO_sizeFaults_85 (by decide) ?_
        refine g_icmp_lt X dMO_sizeFaults_86 (fun c => ?_) (fun c => ?_)
        · have h := h.1 c
          refine g_sub (L' := [(0, .ref (base + 41)), (1, .long v1), (3, .int v3), (4, .int x28), (5, .long r29)]) [2, 3, 4, 1, 0] rfl ?_
          exact r_100 _ (ih) v1 v3 x28 r29 M30 h
        · have h := h.2 c
          refine g_iload X dMO_sizeFaults_89 1 rfl ?_
          refine g_bipush X (v := (8 : Int32)) dMO_sizeFaults_91 (by decide) ?_
          refine g_icmp_ge X dMO_sizeFaults_93 (fun c => ?_) (fun c => ?_)
          · have h := h.1 c
            refine g_sub (L' := [(0, .ref (base + 41)), (1, .long v1), (3, .int v3), (4, .int x28), (5, .long r29)]) [2, 3, 4, 1, 0] rfl ?_
            exact r_100 _ (ih) v1 v3 x28 r29 M30 h
          · have h := h.2 c
            refine g_iconst X (v := (1 : Int32)) dMO_sizeFaults_96 (by decide) ?_
            refine g_goto X dMO_sizeFaults_97 ?_
            refine g_sub (L' := [(0, .ref (base + 41)), (1, .long v1), (3, .int v3), (4, .int x28), (5, .long r29)]) [2, 3, 4, 1, 0] rfl ?_
            exact r_101 _ (ih) v1 v3 x28 r29 (1 : Int32) M30 h
  refine g_args (L' := [(0, .ref (base + 41))]) rfl ?_
  unfold wp_MO_sizeFaults at h
  refine g_aload_n X dMO_sizeFaults_0 rfl 0 rfl ?_
  refine g_getr X hK.1 fw_MO_107 ly_41 rfl dMO_sizeFaults_1 ?_
  refine g_bipush X (v := (8 : Int32)) dMO_sizeFaults_4 (by decide) ?_
  obtain ⟨hi, h⟩ := h
  refine g_iald X hK.1 ly_73 hi dMO_sizeFaults_6 ?_
  refine g_if_eq X dMO_sizeFaults_7 (fun c => ?_) (fun c => ?_)
  · have h := h.1 c
    refine g_aload_n X dMO_sizeFaults_46 rfl 0 rfl ?_
    refine g_bipush X (v := (18 : Int32)) dMO_sizeFaults_47 (by decide) ?_
    refine g_bipush X (v := (50 : Int32)) dMO_sizeFaults_49 (by decide) ?_
    refine g_callV X hK gTs_ok ly_41 rfl mw_MO_fault tw_1243 mi_MO_fault ms_MO_fault (As := [.int (18 : Int32), .int (50 : Int32)]) rfl ⟨(Nat.le_of_ble_eq_true rfl), (Nat.le_of_ble_eq_true rfl), Nat.le_refl _, Nat.le_refl _⟩ (m_MO_fault h) (rest := []) rfl (Nat.le_of_ble_eq_true rfl) dMO_sizeFaults_51 (gk_i (fun r1 M2 h => ?_))
    exact g_iret X hr hlk dMO_sizeFaults_54 ⟨_, rfl, h⟩
  · have h := h.2 c
    refine g_aload_n X dMO_sizeFaults_10 rfl 0 rfl ?_
    refine g_getr X hK.1 fw_MO_107 ly_41 rfl dMO_sizeFaults_11 ?_
    refine g_bipush X (v := (9 : Int32)) dMO_sizeFaults_14 (by decide) ?_
    obtain ⟨hi, h⟩ := h
    refine g_iald X hK.1 ly_73 hi dMO_sizeFaults_16 ?_
    refine g_if_eq X dMO_sizeFaults_17 (fun c => ?_) (fun c => ?_)
    · have h := h.1 c
      refine g_aload_n X dMO_sizeFaults_46 rfl 0 rfl ?_
      refine g_bipush X (v := (18 : Int32)) dMO_sizeFaults_47 (by decide) ?_
      refine g_bipush X (v := (50 : Int32)) dMO_sizeFaults_49 (by decide) ?_
      refine g_callV X hK gTs_ok ly_41 rfl mw_MO_fault tw_1243 mi_MO_fault ms_MO_fault (As := [.int (18 : Int32), .int (50 : Int32)]) rfl ⟨(Nat.le_of_ble_eq_true rfl), (Nat.le_of_ble_eq_true rfl), Nat.le_refl _, Nat.le_refl _⟩ (m_MO_fault h) (rest := []) rfl (Nat.le_of_ble_eq_true rfl) dMO_sizeFaults_51 (gk_i (fun r3 M4 h => ?_))
      exact g_iret X hr hlk dMO_sizeFaults_54 ⟨_, rfl, h⟩
    · have h := h.2 c
      refine g_aload_n X dMO_sizeFaults_20 rfl 0 rfl ?_
      refine g_getr X hK.1 fw_MO_107 ly_41 rfl dMO_sizeFaults_21 ?_
      refine g_bipush X (v := (10 : Int32)) dMO_sizeFaults_24 (by decide) ?_
      obtain ⟨hi, h⟩ := h
      refine g_iald X hK.1 ly_73 hi dMO_sizeFaults_26 ?_
      refine g_if_eq X dMO_sizeFaults_27 (fun c => ?_) (fun c => ?_)
      · have h := h.1 c
        refine g_aload_n X dMO_sizeFaults_46 rfl 0 rfl ?_
        refine g_bipush X (v := (18 : Int32)) dMO_sizeFaults_47 (by decide) ?_
        refine g_bipush X (v := (50 : Int32)) dMO_sizeFaults_49 (by decide) ?_
        refine g_callV X hK gTs_ok ly_41 rfl mw_MO_fault tw_1243 mi_MO_fault ms_MO_fault (As := [.int (18 : Int32), .int (50 : Int32)]) rfl ⟨(Nat.le_of_ble_eq_true rfl), (Nat.le_of_ble_eq_true rfl), Nat.le_refl _, Nat.le_refl _⟩ (m_MO_fault h) (rest := []) rfl (Nat.le_of_ble_eq_true rfl) dMO_sizeFaults_51 (gk_i (fun r5 M6 h => ?_))
        exact g_iret X hr hlk dMO_sizeFaults_54 ⟨_, rfl, h⟩
      · have h := h.2 c
        refine g_aload_n X dMO_sizeFaults_30 rfl 0 rfl ?_
        refine g_getr X hK.1 fw_MO_107 ly_41 rfl dMO_sizeFaults_31 ?_
        refine g_bipush X (v := (10 : Int32)) dMO_sizeFaults_34 (by decide) ?_
        obtain ⟨hi, h⟩ := h
        refine g_iald X hK.1 ly_73 hi dMO_sizeFaults_36 ?_
        refine g_aload_n X dMO_sizeFaults_37 rfl 0 rfl ?_
        refine g_bipush X (v := (50 : Int32)) dMO_sizeFaults_38 (by decide) ?_
        refine g_callV X hK gTs_ok ly_41 rfl mw_MO_read2 tw_1247 mi_MO_read2 ms_MO_read2 (As := [.int (50 : Int32)]) rfl ⟨(Nat.le_of_ble_eq_true rfl), (Nat.le_of_ble_eq_true rfl), Nat.le_refl _, Nat.le_refl _⟩ (m_MO_read2 h) (rest := [.int (M 73 ((10 : Int32)).toNatClampNeg)]) rfl (Nat.le_of_ble_eq_true rfl) dMO_sizeFaults_40 (gk_i (fun r7 M8 h => ?_))
        refine g_icmp_eq X dMO_sizeFaults_43 (fun c => ?_) (fun c => ?_)
        · have h := h.1 c
          refine g_lconst X (v := (0 : Int64)) dMO_sizeFaults_55 (by decide) ?_
          refine g_lstore_n X (L' := [(1, .long (0 : Int64)), (0, .ref (base + 41))]) dMO_sizeFaults_56 rfl (Nat.le_of_ble_eq_true rfl) rfl ?_
          refine g_iconst X (v := (1 : Int32)) dMO_sizeFaults_57 (by decide) ?_
          refine g_istore_n X (L' := [(3, .int (1 : Int32)), (1, .long (0 : Int64)), (0, .ref (base + 41))]) dMO_sizeFaults_58 rfl (Nat.le_of_ble_eq_true rfl) rfl ?_
          refine g_sub (L' := [(0, .ref (base + 41)), (1, .long (0 : Int64)), (3, .int (1 : Int32))]) [2, 1, 0] rfl ?_
          obtain ⟨n9, h⟩ := h
          exact r_59 n9 (0 : Int64) (1 : Int32) M8 h
        · have h := h.2 c
          refine g_aload_n X dMO_sizeFaults_46 rfl 0 rfl ?_
          refine g_bipush X (v := (18 : Int32)) dMO_sizeFaults_47 (by decide) ?_
          refine g_bipush X (v := (50 : Int32)) dMO_sizeFaults_49 (by decide) ?_
          refine g_callV X hK gTs_ok ly_41 rfl mw_MO_fault tw_1243 mi_MO_fault ms_MO_fault (As := [.int (18 : Int32), .int (50 : Int32)]) rfl ⟨(Nat.le_of_ble_eq_true rfl), (Nat.le_of_ble_eq_true rfl), Nat.le_refl _, Nat.le_refl _⟩ (m_MO_fault h) (rest := []) rfl (Nat.le_of_ble_eq_true rfl) dMO_sizeFaults_51 (gk_i (fun r37 M38 h => ?_))
          exact g_iret X hr hlk dMO_sizeFaults_54 ⟨_, rfl, h⟩
set_option maxRecDepth 100000 in
set_option maxHeartbeats 4000000 in
theorem m_MO_symbolsIn {l : Launch} {D : va_G} {ta : Nat → ClassId} {base : Nat} {sa : Nat → Nat} {post : Int32 → gMem → Prop} {M : gMem} (h : wp_MO_symbolsIn post M) : GC gLay gCl D ta base gNw sa gTabs gTs l y_MO_symbolsIn b_MO_symbolsIn 1 (some .int) 4 85 [.ref (base + 41)] M (gPi post) := by
  refine GC.of (own := "ObjectFileModel") pn_MO rfl (Nat.le_of_ble_eq_true rfl) ?_
  intro p e s m below meth c X hK hr hlk
  refine g_args (L' := [(0, .ref (base + 41))]) rfl ?_
  unfold wp_MO_symbolsIn at h
  refine g_aload_n X dMO_symbolsIn_0 rfl 0 rfl ?_
  refine g_bipush X (v := (8 : Int32)) dMO_symbolsIn_1 (by decide) ?_
  refine g_callV X hK gTs_ok ly_41 rfl mw_MO_bytesOf tw_1299 mi_MO_bytesOf ms_MO_bytesOf (As := [.int (8 : Int32)]) rfl ⟨(Nat.le_of_ble_eq_true rfl), (Nat.le_of_ble_eq_true rfl), Nat.le_refl _, Nat.le_refl _⟩ (m_MO_bytesOf h) (rest := []) rfl (Nat.le_of_ble_eq_true rfl) dMO_symbolsIn_3 (gk_l (fun r1 M2 h => ?_))
  refine g_ldc2 X (v := (16 : Int64)) (tw_1297) dMO_symbolsIn_6 ?_
  refine g_ldiv X dMO_symbolsIn_9 (by decide) ?_
  refine g_l2i X dMO_symbolsIn_10 rfl ?_
  exact g_iret X hr hlk dMO_symbolsIn_11 ⟨_, rfl, h⟩
set_option maxRecDepth 100000 in
set_option maxHeartbeats 4000000 in
theorem m_MO_symbolPlace {l : Launch} {D : va_G} {ta : Nat → ClassId} {base : Nat} {sa : Nat → Nat} {post : Int32 → gMem → Prop} {a0 : Int32} {M : gMem} (h : wp_MO_symbolPlace post a0 M) : GC gLay gCl D ta base gNw sa gTabs gTs l y_MO_symbolPlace b_MO_symbolPlace 2 (some .int) 4 85 [.ref (base + 41), .int a0] M (gPi post) := by
  refine GC.of (own := "ObjectFileModel") pn_MO rfl (Nat.le_of_ble_eq_true rfl) ?_
  intro p e s m below meth c X hK hr hlk
  refine g_args (L' := [(0, .ref (base + 41)), (1, .int a0)]) rfl ?_
  unfold wp_MO_symbolPlace at h
  refine g_aload_n X dMO_symbolPlace_0 rfl 0 rfl ?_
  refine g_bipush X (v := (8 : Int32)) dMO_symbolPlace_1 (by decide) ?_
  refine g_callV X hK gTs_ok ly_41 rfl mw_MO_from tw_1303 mi_MO_from ms_MO_from (As := [.int (8 : Int32)]) rfl ⟨(Nat.le_of_ble_eq_true rfl), (Nat.le_of_ble_eq_true rfl), Nat.le_refl _, Nat.le_refl _⟩ (m_MO_from h) (rest := []) rfl (Nat.le_of_ble_eq_true rfl) dMO_symbolPlace_3 (gk_i (fun r1 M2 h => ?_))
  refine g_bipush X (v := (16 : Int32)) dMO_symbolPlace_6 (by decide) ?_
  refine g_iload_n X dMO_symbolPlace_8 rfl 1 rfl ?_
  refine g_imul X dMO_symbolPlace_9 ?_
  refine g_iadd X dMO_symbolPlace_10 ?_
  exact g_iret X hr hlk dMO_symbolPlace_11 ⟨_, rfl, h⟩
set_option maxRecDepth 100000 in
set_option maxHeartbeats 4000000 in
theorem m_MO_bindOf {l : Launch} {D : va_G} {ta : Nat → ClassId} {base : Nat} {sa : Nat → Nat} {post : Int32 → gMem → Prop} {a0 : Int32} {M : gMem} (h : wp_MO_bindOf post a0 M) : GC gLay gCl D ta base gNw sa gTabs gTs l y_MO_bindOf b_MO_bindOf 2 (some .int) 5 106 [.ref (base + 41), .int a0] M (gPi post) := by
  refine GC.of (own := "ObjectFileModel") pn_MO rfl (Nat.le_of_ble_eq_true rfl) ?_
  intro p e s m below meth c X hK hr hlk
  refine g_args (L' := [(0, .ref (base + 41)), (1, .int a0)]) rfl ?_
  unfold wp_MO_bindOf at h
  refine g_aload_n X dMO_bindOf_0 rfl 0 rfl ?_
  refine g_getr X hK.1 fw_MO_70 ly_41 rfl dMO_bindOf_1 ?_
  refine g_aload_n X dMO_bindOf_4 rfl 0 rfl ?_
  refine g_iload_n X dMO_bindOf_5 rfl 1 rfl ?_
  refine g_callV X hK gTs_ok ly_41 rfl mw_MO_symbolPlace tw_1315 mi_MO_symbolPlace ms_MO_symbolPlace (As := [.int a0]) rfl ⟨(Nat.le_of_ble_eq_true rfl), (Nat.le_of_ble_eq_true rfl), Nat.le_refl _, Nat.le_refl _⟩ (m_MO_symbolPlace h) (rest := [.ref (base + 62)]) rfl (Nat.le_of_ble_eq_true rfl) dMO_bindOf_6 (gk_i (fun r1 M2 h => ?_))
  refine g_bipush X (v := (12 : Int32)) dMO_bindOf_9 (by decide) ?_
  refine g_iadd X dMO_bindOf_11 ?_
  obtain ⟨hi, h⟩ := h
  refine g_iald X hK.1 ly_62 hi dMO_bindOf_12 ?_
  refine g_iconst X (v := (4 : Int32)) dMO_bindOf_13 (by decide) ?_
  refine g_ishr X dMO_bindOf_14 ?_
  exact g_iret X hr hlk dMO_bindOf_15 ⟨_, rfl, h⟩
set_option maxRecDepth 100000 in
set_option maxHeartbeats 4000000 in
theorem m_MO_infoFault {l : Launch} {D : va_G} {ta : Nat → ClassId} {base : Nat} {sa : Nat → Nat} {post : Int32 → gMem → Prop} {M : gMem} (h : wp_MO_infoFault post M) : GC gLay gCl D ta base gNw sa gTabs gTs l y_MO_infoFault b_MO_infoFault 4 (some .int) 6 127 [.ref (base + 41)] M (gPi post) := by
  refine GC.of (own := "ObjectFileModel") pn_MO rfl (Nat.le_of_ble_eq_true rfl) ?_
  intro p e s m below meth c X hK hr hlk
  have r_4 : ∀ (n : Nat) (v1 : Int64) (v3 : Int32) (M : gMem), wl_MO_infoFault_4 post n v1 v3 M → GMx D ta base p l e 6 127 s m [.ref (base + 41)] below meth c (gPi post) 4 4 [(0, .ref (base + 41)), (1, .long v1), (3, .int v3)] [] M := by
    intro n
    induction n with
    | zero => exact fun _ _ M h => h.elim
    | succ n ih =>
      intro v1 v3 M h
      refine g_iload_n X dMO_infoFault_4 rfl 2 rfl ?_
      refine g_aload_n X dMO_infoFault_5 rfl 0 rfl ?_
      refine g_callV X hK gTs_ok ly_41 rfl mw_MO_symbolsIn tw_1307 mi_MO_symbolsIn ms_MO_symbolsIn (As := []) rfl ⟨(Nat.le_of_ble_eq_true rfl), (Nat.le_of_ble_eq_true rfl), Nat.le_refl _, Nat.le_refl _⟩ (m_MO_symbolsIn h) (rest := [.int v3]) rfl (Nat.le_of_ble_eq_true rfl) dMO_infoFault_6 (gk_i (fun r1 M2 h => ?_))
      refine g_icmp_ge X dMO_infoFault_9 (fun c => ?_) (fun c => ?_)
      · have h := h.1 c
        refine g_aload_n X dMO_infoFault_34 rfl 0 rfl ?_
        refine g_getr X hK.1 fw_MO_107 ly_41 rfl dMO_infoFault_35 ?_
        refine g_bipush X (v := (8 : Int32)) dMO_infoFault_38 (by decide) ?_
        obtain ⟨hi, h⟩ := h
        refine g_iald X hK.1 ly_73 hi dMO_infoFault_40 ?_
        refine g_topi (fun x3 ex3 => ?_)
        have h := h x3 ex3
        refine g_istore_n X (L' := [(3, .int x3), (0, .ref (base + 41)), (1, .long v1)]) dMO_infoFault_41 rfl (Nat.le_of_ble_eq_true rfl) rfl ?_
        refine g_aload_n X dMO_infoFault_42 rfl 1 rfl ?_
        refine g_iload_n X dMO_infoFault_43 rfl 0 rfl ?_
        refine g_bipush X (v := (7 : Int32)) dMO_infoFault_44 (by decide) ?_
        refine g_callV X hK gTs_ok ly_41 rfl mw_MO_told tw_1263 mi_MO_told ms_MO_told (As := [.int x3, .int (7 : Int32)]) rfl ⟨(Nat.le_of_ble_eq_true rfl), (Nat.le_of_ble_eq_true rfl), Nat.le_refl _, Nat.le_refl _⟩ (m_MO_told h) (rest := []) rfl (Nat.le_of_ble_eq_true rfl) dMO_infoFault_46 (gk_l (fun r4 M5 h => ?_))
        refine g_lload_n X dMO_infoFault_49 rfl 2 rfl ?_
        refine g_lif_eq X dMO_infoFault_50 dMO_infoFault_51 (fun c => ?_) (fun c => ?_)
        · have h := h.1 c
          refine g_iconst X (v := (0 : Int32)) dMO_infoFault_70 (by decide) ?_
          exact g_iret X hr hlk dMO_infoFault_71 ⟨_, rfl, h⟩
        · have h := h.2 c
          refine g_aload_n X dMO_infoFault_54 rfl 1 rfl ?_
          refine g_bipush X (v := (28 : Int32)) dMO_infoFault_55 (by decide) ?_
          refine g_aload_n X dMO_infoFault_57 rfl 1 rfl ?_
          refine g_iload_n X dMO_infoFault_58 rfl 0 rfl ?_
          refine g_bipush X (v := (7 : Int32)) dMO_infoFault_59 (by decide) ?_
          refine g_callV X hK gTs_ok ly_41 rfl mw_MO_spotOf tw_1267 mi_MO_spotOf ms_MO_spotOf (As := [.int x3, .int (7 : Int32)]) rfl ⟨(Nat.le_of_ble_eq_true rfl), (Nat.le_of_ble_eq_true rfl), Nat.le_refl _, Nat.le_refl _⟩ (m_MO_spotOf h) (rest := [.int (28 : Int32), .ref (base + 41)]) rfl (Nat.le_of_ble_eq_true rfl) dMO_infoFault_61 (gk_i (fun r6 M7 h => ?_))
          refine g_callV X hK gTs_ok ly_41 rfl mw_MO_fault tw_1243 mi_MO_fault ms_MO_fault (As := [.int (28 : Int32), .int r6]) rfl ⟨(Nat.le_of_ble_eq_true rfl), (Nat.le_of_ble_eq_true rfl), Nat.le_refl _, Nat.le_refl _⟩ (m_MO_fault h) (rest := []) rfl (Nat.le_of_ble_eq_true rfl) dMO_infoFault_64 (gk_i (fun r8 M9 h => ?_))
          refine g_goto X dMO_infoFault_67 ?_
          exact g_iret X hr hlk dMO_infoFault_71 ⟨_, rfl, h⟩
      · have h := h.2 c
        refine g_lload_n X dMO_infoFault_12 rfl 1 rfl ?_
        refine g_aload_n X dMO_infoFault_13 rfl 0 rfl ?_
        refine g_iload_n X dMO_infoFault_14 rfl 2 rfl ?_
        refine g_callV X hK gTs_ok ly_41 rfl mw_MO_bindOf tw_1331 mi_MO_bindOf ms_MO_bindOf (As := [.int v3]) rfl ⟨(Nat.le_of_ble_eq_true rfl), (Nat.le_of_ble_eq_true rfl), Nat.le_refl _, Nat.le_refl _⟩ (m_MO_bindOf h) (rest := [.long v1]) rfl (Nat.le_of_ble_eq_true rfl) dMO_infoFault_15 (gk_i (fun r10 M11 h => ?_))
        refine g_if_ne X dMO_infoFault_18 (fun c => ?_) (fun c => ?_)
        · have h := h.1 c
          refine g_lconst X (v := (0 : Int64)) dMO_infoFault_25 (by decide) ?_
          refine g_ladd X dMO_infoFault_26 ?_
          refine g_topl (fun x12 ex12 => ?_)
          have h := h x12 ex12
          refine g_lstore_n X (L' := [(1, .long x12), (0, .ref (base + 41)), (3, .int v3)]) dMO_infoFault_27 rfl (Nat.le_of_ble_eq_true rfl) rfl ?_
          obtain ⟨x13, ex13⟩ : ∃ z : Int32, z = v3 + (1 : Int32) := ⟨_, rfl⟩
          have h := h x13 ex13
          refine g_iinc X (L' := [(3, .int x13), (1, .long x12), (0, .ref (base + 41))]) (k := 2) dMO_infoFault_28 rfl (v := x13) (by rw [ex13]; rfl) (Nat.le_of_ble_eq_true rfl) rfl ?_
          refine g_goto X dMO_infoFault_31 ?_
          refine g_sub (L' := [(0, .ref (base + 41)), (1, .long x12), (3, .int x13)]) [2, 1, 0] rfl ?_
          exact ih x12 x13 M11 h
        · have h := h.2 c
          refine g_lconst X (v := (1 : Int64)) dMO_infoFault_21 (by decide) ?_
          refine g_goto X dMO_infoFault_22 ?_
          refine g_ladd X dMO_infoFault_26 ?_
          refine g_topl (fun x14 ex14 => ?_)
          have h := h x14 ex14
          refine g_lstore_n X (L' := [(1, .long x14), (0, .ref (base + 41)), (3, .int v3)]) dMO_infoFault_27 rfl (Nat.le_of_ble_eq_true rfl) rfl ?_
          obtain ⟨x15, ex15⟩ : ∃ z : Int32, z = v3 + (1 : Int32) := ⟨_, rfl⟩
          have h := h x15 ex15
          refine g_iinc X (L' := [(3, .int x15), (1, .long x14), (0, .ref (base + 41))]) (k := 2) dMO_infoFault_28 rfl (v := x15) (by rw [ex15]; rfl) (Nat.le_of_ble_eq_true rfl) rfl ?_
          refine g_goto X dMO_infoFault_31 ?_
          refine g_sub (L' := [(0, .ref (base + 41)), (1, .long x14), (3, .int x15)]) [2, 1, 0] rfl ?_
          exact ih x14 x15 M11 h
  refine g_args (L' := [(0, .ref (base + 41))]) rfl ?_
  unfold wp_MO_infoFault at h
  refine g_lconst X (v := (1 : Int64)) dMO_infoFault_0 (by decide) ?_
  refine g_lstore_n X (L' := [(1, .long (1 : Int64)), (0, .ref (base + 41))]) dMO_infoFault_1 rfl (Nat.le_of_ble_eq_true rfl) rfl ?_
  refine g_iconst X (v := (1 : Int32)) dMO_infoFault_2 (by decide) ?_
  refine g_istore_n X (L' := [(3, .int (1 : Int32)), (1, .long (1 : Int64)), (0, .ref (base + 41))]) dMO_infoFault_3 rfl (Nat.le_of_ble_eq_true rfl) rfl ?_
  refine g_sub (L' := [(0, .ref (base + 41)), (1, .long (1 : Int64)), (3, .int (1 : Int32))]) [2, 1, 0] rfl ?_
  obtain ⟨n9, h⟩ := h
  exact r_4 n9 (1 : Int64) (1 : Int32) M h
set_option maxRecDepth 100000 in
set_option maxHeartbeats 4000000 in
theorem m_MO_startFaults {l : Launch} {D : va_G} {ta : Nat → ClassId} {base : Nat} {sa : Nat → Nat} {post : Int32 → gMem → Prop} {M : gMem} (h : wp_MO_startFaults post M) : GC gLay gCl D ta base gNw sa gTabs gTs l y_MO_startFaults b_MO_startFaults 6 (some .int) 4 85 [.ref (base + 41)] M (gPi post) := by
  refine GC.of (own := "ObjectFileModel") pn_MO rfl (Nat.le_of_ble_eq_true rfl) ?_
  intro p e s m below meth c X hK hr hlk
  have r_140 : ∀ (s0 : Int32) (s1 : Int32) (M : gMem), wj_MO_startFaults_140 post s0 s1 M → GMx D ta base p l e 4 85 s m [.ref (base + 41)] below meth c (gPi post) 6 140 [(0, .ref (base + 41))] [.int s0, .int s1] M := by
    intro s0 s1 M h
    unfold wj_MO_startFaults_140 at h
    refine g_icmp_eq X dMO_startFaults_140 (fun c => ?_) (fun c => ?_)
    · have h := h.1 c
      refine g_iconst X (v := (0 : Int32)) dMO_startFaults_154 (by decide) ?_
      exact g_iret X hr hlk dMO_startFaults_155 ⟨_, rfl, h⟩
    · have h := h.2 c
      refine g_aload_n X dMO_startFaults_143 rfl 0 rfl ?_
      refine g_bipush X (v := (34 : Int32)) dMO_startFaults_144 (by decide) ?_
      refine g_bipush X (v := (36 : Int32)) dMO_startFaults_146 (by decide) ?_
      refine g_callV X hK gTs_ok ly_41 rfl mw_MO_fault tw_1243 mi_MO_fault ms_MO_fault (As := [.int (34 : Int32), .int (36 : Int32)]) rfl ⟨(Nat.le_of_ble_eq_true rfl), (Nat.le_of_ble_eq_true rfl), Nat.le_refl _, Nat.le_refl _⟩ (m_MO_fault h) (rest := []) rfl (Nat.le_of_ble_eq_true rfl) dMO_startFaults_148 (gk_i (fun r6 M7 h => ?_))
      refine g_goto X dMO_startFaults_151 ?_
      exact g_iret X hr hlk dMO_startFaults_155 ⟨_, rfl, h⟩
  have r_131 : ∀ (v1 : Int32) (s0 : Int32) (M : gMem), wj_MO_startFaults_131 post v1 s0 M → GMx D ta base p l e 4 85 s m [.ref (base + 41)] below meth c (gPi post) 6 131 [(0, .ref (base + 41)), (1, .int v1)] [.int s0] M := by
    intro v1 s0 M h
    unfold wj_MO_startFaults_131 at h
    refine g_iload_n X dMO_startFaults_131 rfl 1 rfl ?_
    refine g_if_le X dMO_startFaults_132 (fun c => ?_) (fun c => ?_)
    · have h := h.1 c
      refine g_iconst X (v := (0 : Int32)) dMO_startFaults_139 (by decide) ?_
      refine g_sub (L' := [(0, .ref (base + 41))]) [0] rfl ?_
      exact r_140 (0 : Int32) s0 M h
    · have h := h.2 c
      refine g_iconst X (v := (1 : Int32)) dMO_startFaults_135 (by decide) ?_
      refine g_goto X dMO_startFaults_136 ?_
      refine g_sub (L' := [(0, .ref (base + 41))]) [0] rfl ?_
      exact r_140 (1 : Int32) s0 M h
  have r_61 : ∀ (k13 : Int32 → Int32 → Int32 → gMem → Prop) (hk13 : ∀ (v1 : Int32) (v2 : Int32) (v3 : Int32) (M : gMem), k13 v1 v2 v3 M → GMx D ta base p l e 4 85 s m [.ref (base + 41)] below meth c (gPi post) 6 13 [(0, .ref (base + 41)), (1, .int v1), (2, .int v2), (3, .int v3)] [] M) (v1 : Int32) (v2 : Int32) (v3 : Int32) (v4 : Int32) (v5 : Int32) (M : gMem), wj_MO_startFaults_61 post k13 v1 v2 v3 v4 v5 M → GMx D ta base p l e 4 85 s m [.ref (base + 41)] below meth c (gPi post) 6 61 [(0, .ref (base + 41)), (1, .int v1), (2, .int v2), (3, .int v3), (4, .int v4), (5, .int v5)] [] M := by
    intro k13 hk13 v1 v2 v3 v4 v5 M h
    unfold wj_MO_startFaults_61 at h
    refine g_iload X dMO_startFaults_61 5 rfl ?_
    refine g_i2l X dMO_startFaults_63 rfl ?_
    refine g_aload_n X dMO_startFaults_64 rfl 0 rfl ?_
    refine g_iconst X (v := (0 : Int32)) dMO_startFaults_65 (by decide) ?_
    refine g_callV X hK gTs_ok ly_41 rfl mw_MO_bytesOf tw_1299 mi_MO_bytesOf ms_MO_bytesOf (As := [.int (0 : Int32)]) rfl ⟨(Nat.le_of_ble_eq_true rfl), (Nat.le_of_ble_eq_true rfl), Nat.le_refl _, Nat.le_refl _⟩ (m_MO_bytesOf h) (rest := [.long (v5.toInt64)]) rfl (Nat.le_of_ble_eq_true rfl) dMO_startFaults_66 (gk_l (fun r15 M16 h => ?_))
    refine g_lif_lt X dMO_startFaults_69 dMO_startFaults_70 (fun c => ?_) (fun c => ?_)
    · have h := h.1 c
      refine g_iload_n X dMO_startFaults_82 rfl 1 rfl ?_
      refine g_aload_n X dMO_startFaults_83 rfl 0 rfl ?_
      refine g_getr X hK.1 fw_MO_70 ly_41 rfl dMO_startFaults_84 ?_
      refine g_aload_n X dMO_startFaults_87 rfl 0 rfl ?_
      refine g_iconst X (v := (0 : Int32)) dMO_startFaults_88 (by decide) ?_
      refine g_callV X hK gTs_ok ly_41 rfl mw_MO_from tw_1303 mi_MO_from ms_MO_from (As := [.int (0 : Int32)]) rfl ⟨(Nat.le_of_ble_eq_true rfl), (Nat.le_of_ble_eq_true rfl), Nat.le_refl _, Nat.le_refl _⟩ (m_MO_from h) (rest := [.ref (base + 62), .int v1]) rfl (Nat.le_of_ble_eq_true rfl) dMO_startFaults_89 (gk_i (fun r17 M18 h => ?_))
      refine g_iload X dMO_startFaults_92 5 rfl ?_
      refine g_iadd X dMO_startFaults_94 ?_
      obtain ⟨hi, h⟩ := h
      refine g_iald X hK.1 ly_62 hi dMO_startFaults_95 ?_
      refine g_callS X hK gTs_ok mw_MO_isShort tw_1185 mt_MO_isShort (As := [.int (M18 62 (r17 + v5).toNatClampNeg)]) rfl ⟨(Nat.le_of_ble_eq_true rfl), (Nat.le_of_ble_eq_true rfl), Nat.le_refl _, Nat.le_refl _⟩ (m_MO_isShort h) (rest := [.int v1]) rfl (Nat.le_of_ble_eq_true rfl) dMO_startFaults_96 (gk_z (fun r19 M20 h => ?_))
      refine g_if_eq X dMO_startFaults_99 (fun c => ?_) (fun c => ?_)
      · have h := h.1 c
        refine g_iconst X (v := (0 : Int32)) dMO_startFaults_106 (by decide) ?_
        refine g_iadd X dMO_startFaults_107 ?_
        refine g_topi (fun x21 ex21 => ?_)
        have h := h x21 ex21
        refine g_istore_n X (L' := [(1, .int x21), (0, .ref (base + 41)), (2, .int v2), (3, .int v3), (4, .int v4), (5, .int v5)]) dMO_startFaults_108 rfl (Nat.le_of_ble_eq_true rfl) rfl ?_
        obtain ⟨x22, ex22⟩ : ∃ z : Int32, z = v3 + (1 : Int32) := ⟨_, rfl⟩
        have h := h x22 ex22
        refine g_iinc X (L' := [(3, .int x22), (1, .int x21), (0, .ref (base + 41)), (2, .int v2), (4, .int v4), (5, .int v5)]) (k := 3) dMO_startFaults_109 rfl (v := x22) (by rw [ex22]; rfl) (Nat.le_of_ble_eq_true rfl) rfl ?_
        refine g_goto X dMO_startFaults_112 ?_
        refine g_sub (L' := [(0, .ref (base + 41)), (1, .int x21), (2, .int v2), (3, .int x22)]) [2, 1, 3, 0] rfl ?_
        exact hk13 x21 v2 x22 M20 h
      · have h := h.2 c
        refine g_iconst X (v := (1 : Int32)) dMO_startFaults_102 (by decide) ?_
        refine g_goto X dMO_startFaults_103 ?_
        refine g_iadd X dMO_startFaults_107 ?_
        refine g_topi (fun x23 ex23 => ?_)
        have h := h x23 ex23
        refine g_istore_n X (L' := [(1, .int x23), (0, .ref (base + 41)), (2, .int v2), (3, .int v3), (4, .int v4), (5, .int v5)]) dMO_startFaults_108 rfl (Nat.le_of_ble_eq_true rfl) rfl ?_
        obtain ⟨x24, ex24⟩ : ∃ z : Int32, z = v3 + (1 : Int32) := ⟨_, rfl⟩
        have h := h x24 ex24
        refine g_iinc X (L' := [(3, .int x24), (1, .int x23), (0, .ref (base + 41)), (2, .int v2), (4, .int v4), (5, .int v5)]) (k := 3) dMO_startFaults_109 rfl (v := x24) (by rw [ex24]; rfl) (Nat.le_of_ble_eq_true rfl) rfl ?_
        refine g_goto X dMO_startFaults_112 ?_
        refine g_sub (L' := [(0, .ref (base + 41)), (1, .int x23), (2, .int v2), (3, .int x24)]) [2, 1, 3, 0] rfl ?_
        exact hk13 x23 v2 x24 M20 h
    · have h := h.2 c
      refine g_aload_n X dMO_startFaults_73 rfl 0 rfl ?_
      refine g_bipush X (v := (33 : Int32)) dMO_startFaults_74 (by decide) ?_
      refine g_iload X dMO_startFaults_76 4 rfl ?_
      refine g_callV X hK gTs_ok ly_41 rfl mw_MO_fault tw_1243 mi_MO_fault ms_MO_fault (As := [.int (33 : Int32), .int v4]) rfl ⟨(Nat.le_of_ble_eq_true rfl), (Nat.le_of_ble_eq_true rfl), Nat.le_refl _, Nat.le_refl _⟩ (m_MO_fault h) (rest := []) rfl (Nat.le_of_ble_eq_true rfl) dMO_startFaults_78 (gk_i (fun r25 M26 h => ?_))
      exact g_iret X hr hlk dMO_startFaults_81 ⟨_, rfl, h⟩
  have r_13 : ∀ (n : Nat) (v1 : Int32) (v2 : Int32) (v3 : Int32) (M : gMem), wl_MO_startFaults_13 post n v1 v2 v3 M → GMx D ta base p l e 4 85 s m [.ref (base + 41)] below meth c (gPi post) 6 13 [(0, .ref (base + 41)), (1, .int v1), (2, .int v2), (3, .int v3)] [] M := by
    intro n
    induction n with
    | zero => exact fun _ _ _ M h => h.elim
    | succ n ih =>
      intro v1 v2 v3 M h
      refine g_iload_n X dMO_startFaults_13 rfl 3 rfl ?_
      refine g_iload_n X dMO_startFaults_14 rfl 2 rfl ?_
      refine g_icmp_ge X dMO_startFaults_15 (fun c => ?_) (fun c => ?_)
      · have h := h.1 c
        refine g_aload_n X dMO_startFaults_115 rfl 0 rfl ?_
        refine g_bipush X (v := (36 : Int32)) dMO_startFaults_116 (by decide) ?_
        refine g_callV X hK gTs_ok ly_41 rfl mw_MO_read4 tw_1251 mi_MO_read4 ms_MO_read4 (As := [.int (36 : Int32)]) rfl ⟨(Nat.le_of_ble_eq_true rfl), (Nat.le_of_ble_eq_true rfl), Nat.le_refl _, Nat.le_refl _⟩ (m_MO_read4 h) (rest := []) rfl (Nat.le_of_ble_eq_true rfl) dMO_startFaults_118 (gk_l (fun r4 M5 h => ?_))
        refine g_lconst X (v := (1 : Int64)) dMO_startFaults_121 (by decide) ?_
        refine g_lif_ne X dMO_startFaults_122 dMO_startFaults_123 (fun c => ?_) (fun c => ?_)
        · have h := h.1 c
          refine g_iconst X (v := (0 : Int32)) dMO_startFaults_130 (by decide) ?_
          refine g_sub (L' := [(0, .ref (base + 41)), (1, .int v1)]) [0, 1] rfl ?_
          exact r_131 v1 (0 : Int32) M5 h
        · have h := h.2 c
          refine g_iconst X (v := (1 : Int32)) dMO_startFaults_126 (by decide) ?_
          refine g_goto X dMO_startFaults_127 ?_
          refine g_sub (L' := [(0, .ref (base + 41)), (1, .int v1)]) [0, 1] rfl ?_
          exact r_131 v1 (1 : Int32) M5 h
      · have h := h.2 c
        refine g_aload_n X dMO_startFaults_18 rfl 0 rfl ?_
        refine g_iconst X (v := (4 : Int32)) dMO_startFaults_19 (by decide) ?_
        refine g_callV X hK gTs_ok ly_41 rfl mw_MO_from tw_1303 mi_MO_from ms_MO_from (As := [.int (4 : Int32)]) rfl ⟨(Nat.le_of_ble_eq_true rfl), (Nat.le_of_ble_eq_true rfl), Nat.le_refl _, Nat.le_refl _⟩ (m_MO_from h) (rest := []) rfl (Nat.le_of_ble_eq_true rfl) dMO_startFaults_20 (gk_i (fun r8 M9 h => ?_))
        refine g_iconst X (v := (2 : Int32)) dMO_startFaults_23 (by decide) ?_
        refine g_iload_n X dMO_startFaults_24 rfl 3 rfl ?_
        refine g_imul X dMO_startFaults_25 ?_
        refine g_iadd X dMO_startFaults_26 ?_
        refine g_topi (fun x10 ex10 => ?_)
        have h := h x10 ex10
        refine g_istore X (L' := [(4, .int x10), (0, .ref (base + 41)), (1, .int v1), (2, .int v2), (3, .int v3)]) dMO_startFaults_27 (Nat.le_of_ble_eq_true rfl) rfl ?_
        refine g_aload_n X dMO_startFaults_29 rfl 1 rfl ?_
        refine g_iload X dMO_startFaults_30 0 rfl ?_
        refine g_callV X hK gTs_ok ly_41 rfl mw_MO_read2 tw_1247 mi_MO_read2 ms_MO_read2 (As := [.int x10]) rfl ⟨(Nat.le_of_ble_eq_true rfl), (Nat.le_of_ble_eq_true rfl), Nat.le_refl _, Nat.le_refl _⟩ (m_MO_read2 h) (rest := []) rfl (Nat.le_of_ble_eq_true rfl) dMO_startFaults_32 (gk_i (fun r11 M12 h => ?_))
        refine g_istore X (L' := [(5, .int r11), (4, .int x10), (0, .ref (base + 41)), (1, .int v1), (2, .int v2), (3, .int v3)]) dMO_startFaults_35 (Nat.le_of_ble_eq_true rfl) rfl ?_
        refine g_iload X dMO_startFaults_37 0 rfl ?_
        refine g_iconst X (v := (2 : Int32)) dMO_startFaults_39 (by decide) ?_
        refine g_irem X dMO_startFaults_40 (by decide) ?_
        refine g_if_ne X dMO_startFaults_41 (fun c => ?_) (fun c => ?_)
        · have h := h.1 c
          refine g_aload_n X dMO_startFaults_73 rfl 2 rfl ?_
          refine g_bipush X (v := (33 : Int32)) dMO_startFaults_74 (by decide) ?_
          refine g_iload X dMO_startFaults_76 1 rfl ?_
          refine g_callV X hK gTs_ok ly_41 rfl mw_MO_fault tw_1243 mi_MO_fault ms_MO_fault (As := [.int (33 : Int32), .int x10]) rfl ⟨(Nat.le_of_ble_eq_true rfl), (Nat.le_of_ble_eq_true rfl), Nat.le_refl _, Nat.le_refl _⟩ (m_MO_fault h) (rest := []) rfl (Nat.le_of_ble_eq_true rfl) dMO_startFaults_78 (gk_i (fun r13 M14 h => ?_))
          exact g_iret X hr hlk dMO_startFaults_81 ⟨_, rfl, h⟩
        · have h := h.2 c
          refine g_iload_n X dMO_startFaults_44 rfl 5 rfl ?_
          refine g_if_le X dMO_startFaults_45 (fun c => ?_) (fun c => ?_)
          · have h := h.1 c
            refine g_sub (L' := [(0, .ref (base + 41)), (1, .int v1), (2, .int v2), (3, .int v3), (4, .int x10), (5, .int r11)]) [2, 3, 4, 5, 1, 0] rfl ?_
            exact r_61 _ (ih) v1 v2 v3 x10 r11 M12 h
          · have h := h.2 c
            refine g_iload X dMO_startFaults_48 0 rfl ?_
            refine g_aload_n X dMO_startFaults_50 rfl 2 rfl ?_
            refine g_iload X dMO_startFaults_51 1 rfl ?_
            refine g_iconst X (v := (2 : Int32)) dMO_startFaults_53 (by decide) ?_
            refine g_isub X dMO_startFaults_54 ?_
            refine g_callV X hK gTs_ok ly_41 rfl mw_MO_read2 tw_1247 mi_MO_read2 ms_MO_read2 (As := [.int (x10 - (2 : Int32))]) rfl ⟨(Nat.le_of_ble_eq_true rfl), (Nat.le_of_ble_eq_true rfl), Nat.le_refl _, Nat.le_refl _⟩ (m_MO_read2 h) (rest := [.int r11]) rfl (Nat.le_of_ble_eq_true rfl) dMO_startFaults_55 (gk_i (fun r27 M28 h => ?_))
            refine g_icmp_le X dMO_startFaults_58 (fun c => ?_) (fun c => ?_)
            · have h := h.1 c
              refine g_aload_n X dMO_startFaults_73 rfl 2 rfl ?_
              refine g_bipush X (v := (33 : Int32)) dMO_startFaults_74 (by decide) ?_
              refine g_iload X dMO_startFaults_76 1 rfl ?_
              refine g_callV X hK gTs_ok ly_41 rfl mw_MO_fault tw_1243 mi_MO_fault ms_MO_fault (As := [.int (33 : Int32), .int x10]) rfl ⟨(Nat.le_of_ble_eq_true rfl), (Nat.le_of_ble_eq_true rfl), Nat.le_refl _, Nat.le_refl _⟩ (m_MO_fault h) (rest := []) rfl (Nat.le_of_ble_eq_true rfl) dMO_startFaults_78 (gk_i (fun r29 M30 h => ?_))
              exact g_iret X hr hlk dMO_startFaults_81 ⟨_, rfl, h⟩
            · have h := h.2 c
              refine g_sub (L' := [(0, .ref (base + 41)), (1, .int v1), (2, .int v2), (3, .int v3), (4, .int x10), (5, .int r11)]) [2, 3, 4, 5, 1, 0] rfl ?_
              exact r_61 _ (ih) v1 v2 v3 x10 r11 M28 h
  refine g_args (L' := [(0, .ref (base + 41))]) rfl ?_
  unfold wp_MO_startFaults at h
  refine g_iconst X (v := (0 : Int32)) dMO_startFaults_0 (by decide) ?_
  refine g_istore_n X (L' := [(1, .int (0 : Int32)), (0, .ref (base + 41))]) dMO_startFaults_1 rfl (Nat.le_of_ble_eq_true rfl) rfl ?_
  refine g_aload_n X dMO_startFaults_2 rfl 1 rfl ?_
  refine g_iconst X (v := (4 : Int32)) dMO_startFaults_3 (by decide) ?_
  refine g_callV X hK gTs_ok ly_41 rfl mw_MO_bytesOf tw_1299 mi_MO_bytesOf ms_MO_bytesOf (As := [.int (4 : Int32)]) rfl ⟨(Nat.le_of_ble_eq_true rfl), (Nat.le_of_ble_eq_true rfl), Nat.le_refl _, Nat.le_refl _⟩ (m_MO_bytesOf h) (rest := []) rfl (Nat.le_of_ble_eq_true rfl) dMO_startFaults_4 (gk_l (fun r1 M2 h => ?_))
  refine g_l2i X dMO_startFaults_7 rfl ?_
  refine g_iconst X (v := (2 : Int32)) dMO_startFaults_8 (by decide) ?_
  refine g_idiv X dMO_startFaults_9 (by decide) ?_
  refine g_topi (fun x3 ex3 => ?_)
  have h := h x3 ex3
  refine g_istore_n X (L' := [(2, .int x3), (1, .int (0 : Int32)), (0, .ref (base + 41))]) dMO_startFaults_10 rfl (Nat.le_of_ble_eq_true rfl) rfl ?_
  refine g_iconst X (v := (0 : Int32)) dMO_startFaults_11 (by decide) ?_
  refine g_istore_n X (L' := [(3, .int (0 : Int32)), (2, .int x3), (1, .int (0 : Int32)), (0, .ref (base + 41))]) dMO_startFaults_12 rfl (Nat.le_of_ble_eq_true rfl) rfl ?_
  refine g_sub (L' := [(0, .ref (base + 41)), (1, .int (0 : Int32)), (2, .int x3), (3, .int (0 : Int32))]) [3, 2, 1, 0] rfl ?_
  obtain ⟨n9, h⟩ := h
  exact r_13 n9 (0 : Int32) x3 (0 : Int32) M2 h
set_option maxRecDepth 100000 in
set_option maxHeartbeats 4000000 in
theorem m_MO_relocationFault {l : Launch} {D : va_G} {ta : Nat → ClassId} {base : Nat} {sa : Nat → Nat} {post : Int32 → gMem → Prop} {a0 : Int32} {a1 : Int32} {M : gMem} (h : wp_MO_relocationFault post a0 a1 M) : GC gLay gCl D ta base gNw sa gTabs gTs l y_MO_relocationFault b_MO_relocationFault 11 (some .int) 5 105 [.ref (base + 41), .int a0, .int a1] M (gPi post) := by
  refine GC.of (own := "ObjectFileModel") pn_MO rfl (Nat.le_of_ble_eq_true rfl) ?_
  intro p e s m below meth c X hK hr hlk
  have r_73 : ∀ (v2 : Int32) (M : gMem), wj_MO_relocationFault_73 post v2 M → GMx D ta base p l e 5 105 s m [.ref (base + 41), .int a0, .int a1] below meth c (gPi post) 11 73 [(0, .ref (base + 41)), (2, .int v2)] [] M := by
    intro v2 M h
    unfold wj_MO_relocationFault_73 at h
    refine g_aload_n X dMO_relocationFault_73 rfl 0 rfl ?_
    refine g_bipush X (v := (30 : Int32)) dMO_relocationFault_74 (by decide) ?_
    refine g_iload_n X dMO_relocationFault_76 rfl 1 rfl ?_
    refine g_iconst X (v := (4 : Int32)) dMO_relocationFault_77 (by decide) ?_
    refine g_iadd X dMO_relocationFault_78 ?_
    refine g_callV X hK gTs_ok ly_41 rfl mw_MO_fault tw_1243 mi_MO_fault ms_MO_fault (As := [.int (30 : Int32), .int (v2 + (4 : Int32))]) rfl ⟨(Nat.le_of_ble_eq_true rfl), (Nat.le_of_ble_eq_true rfl), Nat.le_refl _, Nat.le_refl _⟩ (m_MO_fault h) (rest := []) rfl (Nat.le_of_ble_eq_true rfl) dMO_relocationFault_79 (gk_i (fun r9 M10 h => ?_))
    exact g_iret X hr hlk dMO_relocationFault_82 ⟨_, rfl, h⟩
  have r_119 : ∀ (v1 : Int32) (v2 : Int32) (v5 : Int32) (v8 : Int64) (M : gMem), wj_MO_relocationFault_119 post v1 v2 v5 v8 M → GMx D ta base p l e 5 105 s m [.ref (base + 41), .int a0, .int a1] below meth c (gPi post) 11 119 [(0, .ref (base + 41)), (1, .int v1), (2, .int v2), (5, .int v5), (8, .long v8)] [] M := by
    intro v1 v2 v5 v8 M h
    unfold wj_MO_relocationFault_119 at h
    refine g_iload X dMO_relocationFault_119 3 rfl ?_
    refine g_lload X dMO_relocationFault_121 4 rfl ?_
    refine g_l2i X dMO_relocationFault_123 rfl ?_
    refine g_callS X hK gTs_ok mw_MO_widthOf tw_1129 mt_MO_widthOf (As := [.int v5, .int (v8.toInt32)]) rfl ⟨(Nat.le_of_ble_eq_true rfl), (Nat.le_of_ble_eq_true rfl), Nat.le_refl _, Nat.le_refl _⟩ (m_MO_widthOf h) (rest := []) rfl (Nat.le_of_ble_eq_true rfl) dMO_relocationFault_124 (gk_i (fun r15 M16 h => ?_))
    refine g_istore X (L' := [(10, .int r15), (0, .ref (base + 41)), (1, .int v1), (2, .int v2), (5, .int v5), (8, .long v8)]) dMO_relocationFault_127 (Nat.le_of_ble_eq_true rfl) rfl ?_
    refine g_aload_n X dMO_relocationFault_129 rfl 1 rfl ?_
    refine g_iload_n X dMO_relocationFault_130 rfl 3 rfl ?_
    refine g_callV X hK gTs_ok ly_41 rfl mw_MO_read4 tw_1251 mi_MO_read4 ms_MO_read4 (As := [.int v2]) rfl ⟨(Nat.le_of_ble_eq_true rfl), (Nat.le_of_ble_eq_true rfl), Nat.le_refl _, Nat.le_refl _⟩ (m_MO_read4 h) (rest := []) rfl (Nat.le_of_ble_eq_true rfl) dMO_relocationFault_131 (gk_l (fun r17 M18 h => ?_))
    refine g_iload X dMO_relocationFault_134 0 rfl ?_
    refine g_i2l X dMO_relocationFault_136 rfl ?_
    refine g_ladd X dMO_relocationFault_137 ?_
    refine g_aload_n X dMO_relocationFault_138 rfl 1 rfl ?_
    refine g_iload_n X dMO_relocationFault_139 rfl 2 rfl ?_
    refine g_callV X hK gTs_ok ly_41 rfl mw_MO_bytesOf tw_1299 mi_MO_bytesOf ms_MO_bytesOf (As := [.int v1]) rfl ⟨(Nat.le_of_ble_eq_true rfl), (Nat.le_of_ble_eq_true rfl), Nat.le_refl _, Nat.le_refl _⟩ (m_MO_bytesOf h) (rest := [.long (r17 + (r15.toInt64))]) rfl (Nat.le_of_ble_eq_true rfl) dMO_relocationFault_140 (gk_l (fun r19 M20 h => ?_))
    refine g_lif_le X dMO_relocationFault_143 dMO_relocationFault_144 (fun c => ?_) (fun c => ?_)
    · have h := h.1 c
      refine g_iconst X (v := (0 : Int32)) dMO_relocationFault_157 (by decide) ?_
      exact g_iret X hr hlk dMO_relocationFault_158 ⟨_, rfl, h⟩
    · have h := h.2 c
      refine g_aload_n X dMO_relocationFault_147 rfl 1 rfl ?_
      refine g_bipush X (v := (32 : Int32)) dMO_relocationFault_148 (by decide) ?_
      refine g_iload_n X dMO_relocationFault_150 rfl 3 rfl ?_
      refine g_callV X hK gTs_ok ly_41 rfl mw_MO_fault tw_1243 mi_MO_fault ms_MO_fault (As := [.int (32 : Int32), .int v2]) rfl ⟨(Nat.le_of_ble_eq_true rfl), (Nat.le_of_ble_eq_true rfl), Nat.le_refl _, Nat.le_refl _⟩ (m_MO_fault h) (rest := []) rfl (Nat.le_of_ble_eq_true rfl) dMO_relocationFault_151 (gk_i (fun r21 M22 h => ?_))
      refine g_goto X dMO_relocationFault_154 ?_
      exact g_iret X hr hlk dMO_relocationFault_158 ⟨_, rfl, h⟩
  have r_70 : ∀ (v1 : Int32) (v2 : Int32) (v5 : Int32) (s0 : Int32) (s1 : Int32) (M : gMem), wj_MO_relocationFault_70 post v1 v2 v5 s0 s1 M → GMx D ta base p l e 5 105 s m [.ref (base + 41), .int a0, .int a1] below meth c (gPi post) 11 70 [(0, .ref (base + 41)), (1, .int v1), (2, .int v2), (5, .int v5)] [.int s0, .int s1] M := by
    intro v1 v2 v5 s0 s1 M h
    unfold wj_MO_relocationFault_70 at h
    refine g_icmp_eq X dMO_relocationFault_70 (fun c => ?_) (fun c => ?_)
    · have h := h.1 c
      refine g_aload_n X dMO_relocationFault_83 rfl 0 rfl ?_
      refine g_iload_n X dMO_relocationFault_84 rfl 2 rfl ?_
      refine g_bipush X (v := (8 : Int32)) dMO_relocationFault_85 (by decide) ?_
      refine g_iadd X dMO_relocationFault_87 ?_
      refine g_callV X hK gTs_ok ly_41 rfl mw_MO_read4 tw_1251 mi_MO_read4 ms_MO_read4 (As := [.int (v2 + (8 : Int32))]) rfl ⟨(Nat.le_of_ble_eq_true rfl), (Nat.le_of_ble_eq_true rfl), Nat.le_refl _, Nat.le_refl _⟩ (m_MO_read4 h) (rest := []) rfl (Nat.le_of_ble_eq_true rfl) dMO_relocationFault_88 (gk_l (fun r13 M14 h => ?_))
      refine g_lstore X (L' := [(8, .long r13), (0, .ref (base + 41)), (1, .int v1), (2, .int v2), (5, .int v5)]) dMO_relocationFault_91 (Nat.le_of_ble_eq_true rfl) rfl ?_
      refine g_iload X dMO_relocationFault_93 4 rfl ?_
      refine g_bipush X (v := (43 : Int32)) dMO_relocationFault_95 (by decide) ?_
      refine g_icmp_ne X dMO_relocationFault_97 (fun c => ?_) (fun c => ?_)
      · have h := h.1 c
        refine g_sub (L' := [(0, .ref (base + 41)), (1, .int v1), (2, .int v2), (5, .int v5), (8, .long r13)]) [1, 2, 3, 4, 0] rfl ?_
        exact r_119 v1 v2 v5 r13 M14 h
      · have h := h.2 c
        refine g_lload X dMO_relocationFault_100 0 rfl ?_
        refine g_callS X hK gTs_ok mw_MO_isSkip tw_1116 mt_MO_isSkip (As := [.long r13]) rfl ⟨(Nat.le_of_ble_eq_true rfl), (Nat.le_of_ble_eq_true rfl), Nat.le_refl _, Nat.le_refl _⟩ (m_MO_isSkip h) (rest := []) rfl (Nat.le_of_ble_eq_true rfl) dMO_relocationFault_102 (gk_z (fun r23 M24 h => ?_))
        refine g_if_ne X dMO_relocationFault_105 (fun c => ?_) (fun c => ?_)
        · have h := h.1 c
          refine g_sub (L' := [(0, .ref (base + 41)), (1, .int v1), (2, .int v2), (5, .int v5), (8, .long r13)]) [1, 2, 3, 4, 0] rfl ?_
          exact r_119 v1 v2 v5 r13 M24 h
        · have h := h.2 c
          refine g_aload_n X dMO_relocationFault_108 rfl 1 rfl ?_
          refine g_bipush X (v := (31 : Int32)) dMO_relocationFault_109 (by decide) ?_
          refine g_iload_n X dMO_relocationFault_111 rfl 3 rfl ?_
          refine g_bipush X (v := (8 : Int32)) dMO_relocationFault_112 (by decide) ?_
          refine g_iadd X dMO_relocationFault_114 ?_
          refine g_callV X hK gTs_ok ly_41 rfl mw_MO_fault tw_1243 mi_MO_fault ms_MO_fault (As := [.int (31 : Int32), .int (v2 + (8 : Int32))]) rfl ⟨(Nat.le_of_ble_eq_true rfl), (Nat.le_of_ble_eq_true rfl), Nat.le_refl _, Nat.le_refl _⟩ (m_MO_fault h) (rest := []) rfl (Nat.le_of_ble_eq_true rfl) dMO_relocationFault_115 (gk_i (fun r25 M26 h => ?_))
          exact g_iret X hr hlk dMO_relocationFault_118 ⟨_, rfl, h⟩
    · have h := h.2 c
      refine g_sub (L' := [(0, .ref (base + 41)), (2, .int v2)]) [0, 2] rfl ?_
      exact r_73 v2 M h
  refine g_args (L' := [(0, .ref (base + 41)), (1, .int a0), (2, .int a1)]) rfl ?_
  unfold wp_MO_relocationFault at h
  refine g_aload_n X dMO_relocationFault_0 rfl 0 rfl ?_
  refine g_iload_n X dMO_relocationFault_1 rfl 2 rfl ?_
  refine g_iconst X (v := (4 : Int32)) dMO_relocationFault_2 (by decide) ?_
  refine g_iadd X dMO_relocationFault_3 ?_
  refine g_callV X hK gTs_ok ly_41 rfl mw_MO_read4 tw_1251 mi_MO_read4 ms_MO_read4 (As := [.int (a1 + (4 : Int32))]) rfl ⟨(Nat.le_of_ble_eq_true rfl), (Nat.le_of_ble_eq_true rfl), Nat.le_refl _, Nat.le_refl _⟩ (m_MO_read4 h) (rest := []) rfl (Nat.le_of_ble_eq_true rfl) dMO_relocationFault_4 (gk_l (fun r1 M2 h => ?_))
  refine g_lstore_n X (L' := [(3, .long r1), (0, .ref (base + 41)), (1, .int a0), (2, .int a1)]) dMO_relocationFault_7 rfl (Nat.le_of_ble_eq_true rfl) rfl ?_
  refine g_lload_n X dMO_relocationFault_8 rfl 0 rfl ?_
  refine g_ldc2 X (v := (256 : Int64)) (tw_1356) dMO_relocationFault_9 ?_
  refine g_lrem X dMO_relocationFault_12 (by decide) ?_
  refine g_l2i X dMO_relocationFault_13 rfl ?_
  refine g_topi (fun x3 ex3 => ?_)
  have h := h x3 ex3
  refine g_istore X (L' := [(5, .int x3), (3, .long r1), (0, .ref (base + 41)), (1, .int a0), (2, .int a1)]) dMO_relocationFault_14 (Nat.le_of_ble_eq_true rfl) rfl ?_
  refine g_lload_n X dMO_relocationFault_16 rfl 1 rfl ?_
  refine g_ldc2 X (v := (256 : Int64)) (tw_1356) dMO_relocationFault_17 ?_
  refine g_ldiv X dMO_relocationFault_20 (by decide) ?_
  refine g_topl (fun x4 ex4 => ?_)
  have h := h x4 ex4
  refine g_lstore X (L' := [(6, .long x4), (5, .int x3), (3, .long r1), (0, .ref (base + 41)), (1, .int a0), (2, .int a1)]) dMO_relocationFault_21 (Nat.le_of_ble_eq_true rfl) rfl ?_
  refine g_iload X dMO_relocationFault_23 1 rfl ?_
  refine g_iload_n X dMO_relocationFault_25 rfl 4 rfl ?_
  refine g_callS X hK gTs_ok mw_MO_isKindOf tw_1107 mt_MO_isKindOf (As := [.int x3, .int a0]) rfl ⟨(Nat.le_of_ble_eq_true rfl), (Nat.le_of_ble_eq_true rfl), Nat.le_refl _, Nat.le_refl _⟩ (m_MO_isKindOf h) (rest := []) rfl (Nat.le_of_ble_eq_true rfl) dMO_relocationFault_26 (gk_z (fun r5 M6 h => ?_))
  refine g_if_ne X dMO_relocationFault_29 (fun c => ?_) (fun c => ?_)
  · have h := h.1 c
    refine g_lload X dMO_relocationFault_42 0 rfl ?_
    refine g_aload_n X dMO_relocationFault_44 rfl 3 rfl ?_
    refine g_callV X hK gTs_ok ly_41 rfl mw_MO_symbolsIn tw_1307 mi_MO_symbolsIn ms_MO_symbolsIn (As := []) rfl ⟨(Nat.le_of_ble_eq_true rfl), (Nat.le_of_ble_eq_true rfl), Nat.le_refl _, Nat.le_refl _⟩ (m_MO_symbolsIn h) (rest := [.long x4]) rfl (Nat.le_of_ble_eq_true rfl) dMO_relocationFault_45 (gk_i (fun r7 M8 h => ?_))
    refine g_i2l X dMO_relocationFault_48 rfl ?_
    refine g_lif_ge X dMO_relocationFault_49 dMO_relocationFault_50 (fun c => ?_) (fun c => ?_)
    · have h := h.1 c
      refine g_sub (L' := [(0, .ref (base + 41)), (2, .int a1)]) [3, 5] rfl ?_
      exact r_73 a1 M8 h
    · have h := h.2 c
      refine g_iload X dMO_relocationFault_53 1 rfl ?_
      refine g_callS X hK gTs_ok mw_MO_isAlone tw_1113 mt_MO_isAlone (As := [.int x3]) rfl ⟨(Nat.le_of_ble_eq_true rfl), (Nat.le_of_ble_eq_true rfl), Nat.le_refl _, Nat.le_refl _⟩ (m_MO_isAlone h) (rest := []) rfl (Nat.le_of_ble_eq_true rfl) dMO_relocationFault_55 (gk_z (fun r11 M12 h => ?_))
      refine g_lload X dMO_relocationFault_58 0 rfl ?_
      refine g_lconst X (v := (0 : Int64)) dMO_relocationFault_60 (by decide) ?_
      refine g_lif_ne X dMO_relocationFault_61 dMO_relocationFault_62 (fun c => ?_) (fun c => ?_)
      · have h := h.1 c
        refine g_iconst X (v := (0 : Int32)) dMO_relocationFault_69 (by decide) ?_
        refine g_sub (L' := [(0, .ref (base + 41)), (1, .int a0), (2, .int a1), (5, .int x3)]) [3, 4, 5, 1] rfl ?_
        exact r_70 a0 a1 x3 (0 : Int32) (bI r11) M12 h
      · have h := h.2 c
        refine g_iconst X (v := (1 : Int32)) dMO_relocationFault_65 (by decide) ?_
        refine g_goto X dMO_relocationFault_66 ?_
        refine g_sub (L' := [(0, .ref (base + 41)), (1, .int a0), (2, .int a1), (5, .int x3)]) [3, 4, 5, 1] rfl ?_
        exact r_70 a0 a1 x3 (1 : Int32) (bI r11) M12 h
  · have h := h.2 c
    refine g_aload_n X dMO_relocationFault_32 rfl 3 rfl ?_
    refine g_bipush X (v := (29 : Int32)) dMO_relocationFault_33 (by decide) ?_
    refine g_iload_n X dMO_relocationFault_35 rfl 5 rfl ?_
    refine g_iconst X (v := (4 : Int32)) dMO_relocationFault_36 (by decide) ?_
    refine g_iadd X dMO_relocationFault_37 ?_
    refine g_callV X hK gTs_ok ly_41 rfl mw_MO_fault tw_1243 mi_MO_fault ms_MO_fault (As := [.int (29 : Int32), .int (a1 + (4 : Int32))]) rfl ⟨(Nat.le_of_ble_eq_true rfl), (Nat.le_of_ble_eq_true rfl), Nat.le_refl _, Nat.le_refl _⟩ (m_MO_fault h) (rest := []) rfl (Nat.le_of_ble_eq_true rfl) dMO_relocationFault_38 (gk_i (fun r27 M28 h => ?_))
    exact g_iret X hr hlk dMO_relocationFault_41 ⟨_, rfl, h⟩
set_option maxRecDepth 100000 in
set_option maxHeartbeats 4000000 in
theorem m_MO_namePlace {l : Launch} {D : va_G} {ta : Nat → ClassId} {base : Nat} {sa : Nat → Nat} {post : Int32 → gMem → Prop} {a0 : Int32} {M : gMem} (h : wp_MO_namePlace post a0 M) : GC gLay gCl D ta base gNw sa gTabs gTs l y_MO_namePlace b_MO_namePlace 2 (some .int) 5 106 [.ref (base + 41), .int a0] M (gPi post) := by
  refine GC.of (own := "ObjectFileModel") pn_MO rfl (Nat.le_of_ble_eq_true rfl) ?_
  intro p e s m below meth c X hK hr hlk
  refine g_args (L' := [(0, .ref (base + 41)), (1, .int a0)]) rfl ?_
  unfold wp_MO_namePlace at h
  refine g_aload_n X dMO_namePlace_0 rfl 0 rfl ?_
  refine g_bipush X (v := (9 : Int32)) dMO_namePlace_1 (by decide) ?_
  refine g_callV X hK gTs_ok ly_41 rfl mw_MO_from tw_1303 mi_MO_from ms_MO_from (As := [.int (9 : Int32)]) rfl ⟨(Nat.le_of_ble_eq_true rfl), (Nat.le_of_ble_eq_true rfl), Nat.le_refl _, Nat.le_refl _⟩ (m_MO_from h) (rest := []) rfl (Nat.le_of_ble_eq_true rfl) dMO_namePlace_3 (gk_i (fun r1 M2 h => ?_))
  refine g_aload_n X dMO_namePlace_6 rfl 0 rfl ?_
  refine g_aload_n X dMO_namePlace_7 rfl 0 rfl ?_
  refine g_iload_n X dMO_namePlace_8 rfl 1 rfl ?_
  refine g_callV X hK gTs_ok ly_41 rfl mw_MO_symbolPlace tw_1315 mi_MO_symbolPlace ms_MO_symbolPlace (As := [.int a0]) rfl ⟨(Nat.le_of_ble_eq_true rfl), (Nat.le_of_ble_eq_true rfl), Nat.le_refl _, Nat.le_refl _⟩ (m_MO_symbolPlace h) (rest := [.ref (base + 41), .int r1]) rfl (Nat.le_of_ble_eq_true rfl) dMO_namePlace_9 (gk_i (fun r3 M4 h => ?_))
  refine g_callV X hK gTs_ok ly_41 rfl mw_MO_read4 tw_1251 mi_MO_read4 ms_MO_read4 (As := [.int r3]) rfl ⟨(Nat.le_of_ble_eq_true rfl), (Nat.le_of_ble_eq_true rfl), Nat.le_refl _, Nat.le_refl _⟩ (m_MO_read4 h) (rest := [.int r1]) rfl (Nat.le_of_ble_eq_true rfl) dMO_namePlace_12 (gk_l (fun r5 M6 h => ?_))
  refine g_l2i X dMO_namePlace_15 rfl ?_
  refine g_iadd X dMO_namePlace_16 ?_
  exact g_iret X hr hlk dMO_namePlace_17 ⟨_, rfl, h⟩
set_option maxRecDepth 100000 in
set_option maxHeartbeats 4000000 in
theorem m_MO_nameLength {l : Launch} {D : va_G} {ta : Nat → ClassId} {base : Nat} {sa : Nat → Nat} {post : Int32 → gMem → Prop} {a0 : Int32} {M : gMem} (h : wp_MO_nameLength post a0 M) : GC gLay gCl D ta base gNw sa gTabs gTs l y_MO_nameLength b_MO_nameLength 3 (some .int) 0 0 [.ref (base + 41), .int a0] M (gPi post) := by
  refine GC.of (own := "ObjectFileModel") pn_MO rfl (Nat.le_of_ble_eq_true rfl) ?_
  intro p e s m below meth c X hK hr hlk
  have r_2 : ∀ (n : Nat) (v1 : Int32) (v2 : Int32) (M : gMem), wl_MO_nameLength_2 post n v1 v2 M → GMx D ta base p l e 0 0 s m [.ref (base + 41), .int a0] below meth c (gPi post) 3 2 [(0, .ref (base + 41)), (1, .int v1), (2, .int v2)] [] M := by
    intro n
    induction n with
    | zero => exact fun _ _ M h => h.elim
    | succ n ih =>
      intro v1 v2 M h
      refine g_aload_n X dMO_nameLength_2 rfl 0 rfl ?_
      refine g_getr X hK.1 fw_MO_70 ly_41 rfl dMO_nameLength_3 ?_
      refine g_iload_n X dMO_nameLength_6 rfl 1 rfl ?_
      refine g_iload_n X dMO_nameLength_7 rfl 2 rfl ?_
      refine g_iadd X dMO_nameLength_8 ?_
      obtain ⟨hi, h⟩ := h
      refine g_iald X hK.1 ly_62 hi dMO_nameLength_9 ?_
      refine g_if_eq X dMO_nameLength_10 (fun c => ?_) (fun c => ?_)
      · have h := h.1 c
        refine g_iload_n X dMO_nameLength_19 rfl 2 rfl ?_
        exact g_iret X hr hlk dMO_nameLength_20 ⟨_, rfl, h⟩
      · have h := h.2 c
        obtain ⟨x1, ex1⟩ : ∃ z : Int32, z = v2 + (1 : Int32) := ⟨_, rfl⟩
        have h := h x1 ex1
        refine g_iinc X (L' := [(2, .int x1), (0, .ref (base + 41)), (1, .int v1)]) (k := 2) dMO_nameLength_13 rfl (v := x1) (by rw [ex1]; rfl) (Nat.le_of_ble_eq_true rfl) rfl ?_
        refine g_goto X dMO_nameLength_16 ?_
        refine g_sub (L' := [(0, .ref (base + 41)), (1, .int v1), (2, .int x1)]) [1, 2, 0] rfl ?_
        exact ih v1 x1 M h
  refine g_args (L' := [(0, .ref (base + 41)), (1, .int a0)]) rfl ?_
  unfold wp_MO_nameLength at h
  refine g_iconst X (v := (0 : Int32)) dMO_nameLength_0 (by decide) ?_
  refine g_istore_n X (L' := [(2, .int (0 : Int32)), (0, .ref (base + 41)), (1, .int a0)]) dMO_nameLength_1 rfl (Nat.le_of_ble_eq_true rfl) rfl ?_
  refine g_sub (L' := [(0, .ref (base + 41)), (1, .int a0), (2, .int (0 : Int32))]) [1, 2, 0] rfl ?_
  obtain ⟨n9, h⟩ := h
  exact r_2 n9 a0 (0 : Int32) M h
set_option maxRecDepth 100000 in
set_option maxHeartbeats 4000000 in
theorem m_MO_isName {l : Launch} {D : va_G} {ta : Nat → ClassId} {base : Nat} {sa : Nat → Nat} {post : Bool → gMem → Prop} {a0 : Int32} {M : gMem} (h : wp_MO_isName post a0 M) : GC gLay gCl D ta base gNw sa gTabs gTs l y_MO_isName b_MO_isName 5 (some .boolean) 1 22 [.ref (base + 41), .int a0] M (gPz post) := by
  refine GC.of (own := "ObjectFileModel") pn_MO rfl (Nat.le_of_ble_eq_true rfl) ?_
  intro p e s m below meth c X hK hr hlk
  have r_25 : ∀ (n : Nat) (v1 : Int32) (v2 : Int32) (v3 : Int32) (v4 : Int32) (M : gMem), wl_MO_isName_25 post n v1 v2 v3 v4 M → GMx D ta base p l e 1 22 s m [.ref (base + 41), .int a0] below meth c (gPz post) 5 25 [(0, .ref (base + 41)), (1, .int v1), (2, .int v2), (3, .int v3), (4, .int v4)] [] M := by
    intro n
    induction n with
    | zero => exact fun _ _ _ _ M h => h.elim
    | succ n ih =>
      intro v1 v2 v3 v4 M h
      refine g_iload X dMO_isName_25 4 rfl ?_
      refine g_iload_n X dMO_isName_27 rfl 2 rfl ?_
      refine g_icmp_ge X dMO_isName_28 (fun c => ?_) (fun c => ?_)
      · have h := h.1 c
        refine g_iload_n X dMO_isName_75 rfl 3 rfl ?_
        obtain ⟨b, eb, h⟩ := h
        exact g_zretE X hr hlk eb dMO_isName_76 ⟨b, rfl, h⟩
      · have h := h.2 c
        refine g_iload_n X dMO_isName_31 rfl 3 rfl ?_
        refine g_if_eq X dMO_isName_32 (fun c => ?_) (fun c => ?_)
        · have h := h.1 c
          refine g_iconst X (v := (0 : Int32)) dMO_isName_67 (by decide) ?_
          refine g_istore_n X (L' := [(3, .int (0 : Int32)), (0, .ref (base + 41)), (1, .int v1), (2, .int v2), (4, .int v4)]) dMO_isName_68 rfl (Nat.le_of_ble_eq_true rfl) rfl ?_
          obtain ⟨x3, ex3⟩ : ∃ z : Int32, z = v4 + (1 : Int32) := ⟨_, rfl⟩
          have h := h x3 ex3
          refine g_iinc X (L' := [(4, .int x3), (3, .int (0 : Int32)), (0, .ref (base + 41)), (1, .int v1), (2, .int v2)]) (k := 4) dMO_isName_69 rfl (v := x3) (by rw [ex3]; rfl) (Nat.le_of_ble_eq_true rfl) rfl ?_
          refine g_goto X dMO_isName_72 ?_
          refine g_sub (L' := [(0, .ref (base + 41)), (1, .int v1), (2, .int v2), (3, .int (0 : Int32)), (4, .int x3)]) [2, 3, 4, 1, 0] rfl ?_
          exact ih v1 v2 (0 : Int32) x3 M h
        · have h := h.2 c
          refine g_aload_n X dMO_isName_35 rfl 0 rfl ?_
          refine g_getr X hK.1 fw_MO_70 ly_41 rfl dMO_isName_36 ?_
          refine g_iload_n X dMO_isName_39 rfl 1 rfl ?_
          refine g_iload X dMO_isName_40 4 rfl ?_
          refine g_iadd X dMO_isName_42 ?_
          obtain ⟨hi, h⟩ := h
          refine g_iald X hK.1 ly_62 hi dMO_isName_43 ?_
          refine g_bipush X (v := (33 : Int32)) dMO_isName_44 (by decide) ?_
          refine g_icmp_lt X dMO_isName_46 (fun c => ?_) (fun c => ?_)
          · have h := h.1 c
            refine g_iconst X (v := (0 : Int32)) dMO_isName_67 (by decide) ?_
            refine g_istore_n X (L' := [(3, .int (0 : Int32)), (0, .ref (base + 41)), (1, .int v1), (2, .int v2), (4, .int v4)]) dMO_isName_68 rfl (Nat.le_of_ble_eq_true rfl) rfl ?_
            obtain ⟨x4, ex4⟩ : ∃ z : Int32, z = v4 + (1 : Int32) := ⟨_, rfl⟩
            have h := h x4 ex4
            refine g_iinc X (L' := [(4, .int x4), (3, .int (0 : Int32)), (0, .ref (base + 41)), (1, .int v1), (2, .int v2)]) (k := 4) dMO_isName_69 rfl (v := x4) (by rw [ex4]; rfl) (Nat.le_of_ble_eq_true rfl) rfl ?_
            refine g_goto X dMO_isName_72 ?_
            refine g_sub (L' := [(0, .ref (base + 41)), (1, .int v1), (2, .int v2), (3, .int (0 : Int32)), (4, .int x4)]) [2, 3, 4, 1, 0] rfl ?_
            exact ih v1 v2 (0 : Int32) x4 M h
          · have h := h.2 c
            refine g_aload_n X dMO_isName_49 rfl 0 rfl ?_
            refine g_getr X hK.1 fw_MO_70 ly_41 rfl dMO_isName_50 ?_
            refine g_iload_n X dMO_isName_53 rfl 1 rfl ?_
            refine g_iload X dMO_isName_54 4 rfl ?_
            refine g_iadd X dMO_isName_56 ?_
            obtain ⟨hi, h⟩ := h
            refine g_iald X hK.1 ly_62 hi dMO_isName_57 ?_
            refine g_bipush X (v := (126 : Int32)) dMO_isName_58 (by decide) ?_
            refine g_icmp_gt X dMO_isName_60 (fun c => ?_) (fun c => ?_)
            · have h := h.1 c
              refine g_iconst X (v := (0 : Int32)) dMO_isName_67 (by decide) ?_
              refine g_istore_n X (L' := [(3, .int (0 : Int32)), (0, .ref (base + 41)), (1, .int v1), (2, .int v2), (4, .int v4)]) dMO_isName_68 rfl (Nat.le_of_ble_eq_true rfl) rfl ?_
              obtain ⟨x5, ex5⟩ : ∃ z : Int32, z = v4 + (1 : Int32) := ⟨_, rfl⟩
              have h := h x5 ex5
              refine g_iinc X (L' := [(4, .int x5), (3, .int (0 : Int32)), (0, .ref (base + 41)), (1, .int v1), (2, .int v2)]) (k := 4) dMO_isName_69 rfl (v := x5) (by rw [ex5]; rfl) (Nat.le_of_ble_eq_true rfl) rfl ?_
              refine g_goto X dMO_isName_72 ?_
              refine g_sub (L' := [(0, .ref (base + 41)), (1, .int v1), (2, .int v2), (3, .int (0 : Int32)), (4, .int x5)]) [2, 3, 4, 1, 0] rfl ?_
              exact ih v1 v2 (0 : Int32) x5 M h
            · have h := h.2 c
              refine g_iconst X (v := (1 : Int32)) dMO_isName_63 (by decide) ?_
              refine g_goto X dMO_isName_64 ?_
              refine g_istore_n X (L' := [(3, .int (1 : Int32)), (0, .ref (base + 41)), (1, .int v1), (2, .int v2), (4, .int v4)]) dMO_isName_68 rfl (Nat.le_of_ble_eq_true rfl) rfl ?_
              obtain ⟨x6, ex6⟩ : ∃ z : Int32, z = v4 + (1 : Int32) := ⟨_, rfl⟩
              have h := h x6 ex6
              refine g_iinc X (L' := [(4, .int x6), (3, .int (1 : Int32)), (0, .ref (base + 41)), (1, .int v1), (2, .int v2)]) (k := 4) dMO_isName_69 rfl (v := x6) (by rw [ex6]; rfl) (Nat.le_of_ble_eq_true rfl) rfl ?_
              refine g_goto X dMO_isName_72 ?_
              refine g_sub (L' := [(0, .ref (base + 41)), (1, .int v1), (2, .int v2), (3, .int (1 : Int32)), (4, .int x6)]) [2, 3, 4, 1, 0] rfl ?_
              exact ih v1 v2 (1 : Int32) x6 M h
  refine g_args (L' := [(0, .ref (base + 41)), (1, .int a0)]) rfl ?_
  unfold wp_MO_isName at h
  refine g_aload_n X dMO_isName_0 rfl 0 rfl ?_
  refine g_iload_n X dMO_isName_1 rfl 1 rfl ?_
  refine g_callV X hK gTs_ok ly_41 rfl mw_MO_nameLength tw_1327 mi_MO_nameLength ms_MO_nameLength (As := [.int a0]) rfl ⟨(Nat.le_of_ble_eq_true rfl), (Nat.le_of_ble_eq_true rfl), Nat.le_refl _, Nat.le_refl _⟩ (m_MO_nameLength h) (rest := []) rfl (Nat.le_of_ble_eq_true rfl) dMO_isName_2 (gk_i (fun r1 M2 h => ?_))
  refine g_istore_n X (L' := [(2, .int r1), (0, .ref (base + 41)), (1, .int a0)]) dMO_isName_5 rfl (Nat.le_of_ble_eq_true rfl) rfl ?_
  refine g_iload_n X dMO_isName_6 rfl 0 rfl ?_
  refine g_if_le X dMO_isName_7 (fun c => ?_) (fun c => ?_)
  · have h := h.1 c
    refine g_iconst X (v := (0 : Int32)) dMO_isName_20 (by decide) ?_
    refine g_istore_n X (L' := [(3, .int (0 : Int32)), (2, .int r1), (0, .ref (base + 41)), (1, .int a0)]) dMO_isName_21 rfl (Nat.le_of_ble_eq_true rfl) rfl ?_
    refine g_iconst X (v := (0 : Int32)) dMO_isName_22 (by decide) ?_
    refine g_istore X (L' := [(4, .int (0 : Int32)), (3, .int (0 : Int32)), (2, .int r1), (0, .ref (base + 41)), (1, .int a0)]) dMO_isName_23 (Nat.le_of_ble_eq_true rfl) rfl ?_
    refine g_sub (L' := [(0, .ref (base + 41)), (1, .int a0), (2, .int r1), (3, .int (0 : Int32)), (4, .int (0 : Int32))]) [3, 4, 2, 1, 0] rfl ?_
    obtain ⟨n9, h⟩ := h
    exact r_25 n9 a0 r1 (0 : Int32) (0 : Int32) M2 h
  · have h := h.2 c
    refine g_iload_n X dMO_isName_10 rfl 0 rfl ?_
    refine g_bipush X (v := (16 : Int32)) dMO_isName_11 (by decide) ?_
    refine g_icmp_gt X dMO_isName_13 (fun c => ?_) (fun c => ?_)
    · have h := h.1 c
      refine g_iconst X (v := (0 : Int32)) dMO_isName_20 (by decide) ?_
      refine g_istore_n X (L' := [(3, .int (0 : Int32)), (2, .int r1), (0, .ref (base + 41)), (1, .int a0)]) dMO_isName_21 rfl (Nat.le_of_ble_eq_true rfl) rfl ?_
      refine g_iconst X (v := (0 : Int32)) dMO_isName_22 (by decide) ?_
      refine g_istore X (L' := [(4, .int (0 : Int32)), (3, .int (0 : Int32)), (2, .int r1), (0, .ref (base + 41)), (1, .int a0)]) dMO_isName_23 (Nat.le_of_ble_eq_true rfl) rfl ?_
      refine g_sub (L' := [(0, .ref (base + 41)), (1, .int a0), (2, .int r1), (3, .int (0 : Int32)), (4, .int (0 : Int32))]) [3, 4, 2, 1, 0] rfl ?_
      obtain ⟨n9, h⟩ := h
      exact r_25 n9 a0 r1 (0 : Int32) (0 : Int32) M2 h
    · have h := h.2 c
      refine g_iconst X (v := (1 : Int32)) dMO_isName_16 (by decide) ?_
      refine g_goto X dMO_isName_17 ?_
      refine g_istore_n X (L' := [(3, .int (1 : Int32)), (2, .int r1), (0, .ref (base + 41)), (1, .int a0)]) dMO_isName_21 rfl (Nat.le_of_ble_eq_true rfl) rfl ?_
      refine g_iconst X (v := (0 : Int32)) dMO_isName_22 (by decide) ?_
      refine g_istore X (L' := [(4, .int (0 : Int32)), (3, .int (1 : Int32)), (2, .int r1), (0, .ref (base + 41)), (1, .int a0)]) dMO_isName_23 (Nat.le_of_ble_eq_true rfl) rfl ?_
      refine g_sub (L' := [(0, .ref (base + 41)), (1, .int a0), (2, .int r1), (3, .int (1 : Int32)), (4, .int (0 : Int32))]) [3, 4, 2, 1, 0] rfl ?_
      obtain ⟨n9, h⟩ := h
      exact r_25 n9 a0 r1 (1 : Int32) (0 : Int32) M2 h
set_option maxRecDepth 100000 in
set_option maxHeartbeats 4000000 in
theorem m_MO_whereOf {l : Launch} {D : va_G} {ta : Nat → ClassId} {base : Nat} {sa : Nat → Nat} {post : Int32 → gMem → Prop} {a0 : Int32} {M : gMem} (h : wp_MO_whereOf post a0 M) : GC gLay gCl D ta base gNw sa gTabs gTs l y_MO_whereOf b_MO_whereOf 4 (some .int) 5 106 [.ref (base + 41), .int a0] M (gPi post) := by
  refine GC.of (own := "ObjectFileModel") pn_MO rfl (Nat.le_of_ble_eq_true rfl) ?_
  intro p e s m below meth c X hK hr hlk
  have r_37 : ∀ (n : Nat) (v2 : Int32) (v3 : Int32) (M : gMem), wl_MO_whereOf_37 post n v2 v3 M → GMx D ta base p l e 5 106 s m [.ref (base + 41), .int a0] below meth c (gPi post) 4 37 [(0, .ref (base + 41)), (2, .int v2), (3, .int v3)] [] M := by
    intro n
    induction n with
    | zero => exact fun _ _ M h => h.elim
    | succ n ih =>
      intro v2 v3 M h
      refine g_iload_n X dMO_whereOf_37 rfl 2 rfl ?_
      refine g_iconst X (v := (4 : Int32)) dMO_whereOf_38 (by decide) ?_
      refine g_icmp_ge X dMO_whereOf_39 (fun c => ?_) (fun c => ?_)
      · have h := h.1 c
        refine g_bipush X (v := (-2 : Int32)) dMO_whereOf_60 (by decide) ?_
        exact g_iret X hr hlk dMO_whereOf_62 ⟨_, rfl, h⟩
      · have h := h.2 c
        refine g_aload_n X dMO_whereOf_42 rfl 0 rfl ?_
        refine g_getr X hK.1 fw_MO_107 ly_41 rfl dMO_whereOf_43 ?_
        refine g_iload_n X dMO_whereOf_46 rfl 2 rfl ?_
        obtain ⟨hi, h⟩ := h
        refine g_iald X hK.1 ly_73 hi dMO_whereOf_47 ?_
        refine g_iload_n X dMO_whereOf_48 rfl 1 rfl ?_
        refine g_icmp_ne X dMO_whereOf_49 (fun c => ?_) (fun c => ?_)
        · have h := h.1 c
          obtain ⟨x5, ex5⟩ : ∃ z : Int32, z = v3 + (1 : Int32) := ⟨_, rfl⟩
          have h := h x5 ex5
          refine g_iinc X (L' := [(3, .int x5), (0, .ref (base + 41)), (2, .int v2)]) (k := 2) dMO_whereOf_54 rfl (v := x5) (by rw [ex5]; rfl) (Nat.le_of_ble_eq_true rfl) rfl ?_
          refine g_goto X dMO_whereOf_57 ?_
          refine g_sub (L' := [(0, .ref (base + 41)), (2, .int v2), (3, .int x5)]) [1, 2, 0] rfl ?_
          exact ih v2 x5 M h
        · have h := h.2 c
          refine g_iload_n X dMO_whereOf_52 rfl 2 rfl ?_
          exact g_iret X hr hlk dMO_whereOf_53 ⟨_, rfl, h⟩
  refine g_args (L' := [(0, .ref (base + 41)), (1, .int a0)]) rfl ?_
  unfold wp_MO_whereOf at h
  refine g_aload_n X dMO_whereOf_0 rfl 0 rfl ?_
  refine g_aload_n X dMO_whereOf_1 rfl 0 rfl ?_
  refine g_iload_n X dMO_whereOf_2 rfl 1 rfl ?_
  refine g_callV X hK gTs_ok ly_41 rfl mw_MO_symbolPlace tw_1315 mi_MO_symbolPlace ms_MO_symbolPlace (As := [.int a0]) rfl ⟨(Nat.le_of_ble_eq_true rfl), (Nat.le_of_ble_eq_true rfl), Nat.le_refl _, Nat.le_refl _⟩ (m_MO_symbolPlace h) (rest := [.ref (base + 41)]) rfl (Nat.le_of_ble_eq_true rfl) dMO_whereOf_3 (gk_i (fun r1 M2 h => ?_))
  refine g_bipush X (v := (14 : Int32)) dMO_whereOf_6 (by decide) ?_
  refine g_iadd X dMO_whereOf_8 ?_
  refine g_callV X hK gTs_ok ly_41 rfl mw_MO_read2 tw_1247 mi_MO_read2 ms_MO_read2 (As := [.int (r1 + (14 : Int32))]) rfl ⟨(Nat.le_of_ble_eq_true rfl), (Nat.le_of_ble_eq_true rfl), Nat.le_refl _, Nat.le_refl _⟩ (m_MO_read2 h) (rest := []) rfl (Nat.le_of_ble_eq_true rfl) dMO_whereOf_9 (gk_i (fun r3 M4 h => ?_))
  refine g_istore_n X (L' := [(2, .int r3), (0, .ref (base + 41)), (1, .int a0)]) dMO_whereOf_12 rfl (Nat.le_of_ble_eq_true rfl) rfl ?_
  refine g_iload_n X dMO_whereOf_13 rfl 0 rfl ?_
  refine g_if_ne X dMO_whereOf_14 (fun c => ?_) (fun c => ?_)
  · have h := h.1 c
    refine g_iload_n X dMO_whereOf_19 rfl 0 rfl ?_
    refine g_ldc X (v := (65521 : Int32)) (tw_1196) dMO_whereOf_20 ?_
    refine g_icmp_ne X dMO_whereOf_22 (fun c => ?_) (fun c => ?_)
    · have h := h.1 c
      refine g_iload_n X dMO_whereOf_27 rfl 0 rfl ?_
      refine g_ldc X (v := (65522 : Int32)) (tw_1197) dMO_whereOf_28 ?_
      refine g_icmp_ne X dMO_whereOf_30 (fun c => ?_) (fun c => ?_)
      · have h := h.1 c
        refine g_iconst X (v := (0 : Int32)) dMO_whereOf_35 (by decide) ?_
        refine g_istore_n X (L' := [(3, .int (0 : Int32)), (2, .int r3), (0, .ref (base + 41)), (1, .int a0)]) dMO_whereOf_36 rfl (Nat.le_of_ble_eq_true rfl) rfl ?_
        refine g_sub (L' := [(0, .ref (base + 41)), (2, .int r3), (3, .int (0 : Int32))]) [2, 1, 0] rfl ?_
        obtain ⟨n9, h⟩ := h
        exact r_37 n9 r3 (0 : Int32) M4 h
      · have h := h.2 c
        refine g_iconst X (v := (5 : Int32)) dMO_whereOf_33 (by decide) ?_
        exact g_iret X hr hlk dMO_whereOf_34 ⟨_, rfl, h⟩
    · have h := h.2 c
      refine g_iconst X (v := (4 : Int32)) dMO_whereOf_25 (by decide) ?_
      exact g_iret X hr hlk dMO_whereOf_26 ⟨_, rfl, h⟩
  · have h := h.2 c
    refine g_iconst X (v := (-1 : Int32)) dMO_whereOf_17 (by decide) ?_
    exact g_iret X hr hlk dMO_whereOf_18 ⟨_, rfl, h⟩
set_option maxRecDepth 100000 in
set_option maxHeartbeats 4000000 in
theorem m_MO_amiss {l : Launch} {D : va_G} {ta : Nat → ClassId} {base : Nat} {sa : Nat → Nat} {post : Int32 → gMem → Prop} {a0 : Int32} {M : gMem} (h : wp_MO_amiss post a0 M) : GC gLay gCl D ta base gNw sa gTabs gTs l y_MO_amiss b_MO_amiss 8 (some .int) 6 129 [.ref (base + 41), .int a0] M (gPi post) := by
  refine GC.of (own := "ObjectFileModel") pn_MO rfl (Nat.le_of_ble_eq_true rfl) ?_
  intro p e s m below meth c X hK hr hlk
  refine g_args (L' := [(0, .ref (base + 41)), (1, .int a0)]) rfl ?_
  unfold wp_MO_amiss at h
  refine g_aload_n X dMO_amiss_0 rfl 0 rfl ?_
  refine g_iload_n X dMO_amiss_1 rfl 1 rfl ?_
  refine g_callV X hK gTs_ok ly_41 rfl mw_MO_symbolPlace tw_1315 mi_MO_symbolPlace ms_MO_symbolPlace (As := [.int a0]) rfl ⟨(Nat.le_of_ble_eq_true rfl), (Nat.le_of_ble_eq_true rfl), Nat.le_refl _, Nat.le_refl _⟩ (m_MO_symbolPlace h) (rest := []) rfl (Nat.le_of_ble_eq_true rfl) dMO_amiss_2 (gk_i (fun r1 M2 h => ?_))
  refine g_istore_n X (L' := [(2, .int r1), (0, .ref (base + 41)), (1, .int a0)]) dMO_amiss_5 rfl (Nat.le_of_ble_eq_true rfl) rfl ?_
  refine g_aload_n X dMO_amiss_6 rfl 1 rfl ?_
  refine g_iload_n X dMO_amiss_7 rfl 2 rfl ?_
  refine g_callV X hK gTs_ok ly_41 rfl mw_MO_whereOf tw_1335 mi_MO_whereOf ms_MO_whereOf (As := [.int a0]) rfl ⟨(Nat.le_of_ble_eq_true rfl), (Nat.le_of_ble_eq_true rfl), Nat.le_refl _, Nat.le_refl _⟩ (m_MO_whereOf h) (rest := []) rfl (Nat.le_of_ble_eq_true rfl) dMO_amiss_8 (gk_i (fun r3 M4 h => ?_))
  refine g_istore_n X (L' := [(3, .int r3), (2, .int r1), (0, .ref (base + 41)), (1, .int a0)]) dMO_amiss_11 rfl (Nat.le_of_ble_eq_true rfl) rfl ?_
  refine g_aload_n X dMO_amiss_12 rfl 2 rfl ?_
  refine g_iload_n X dMO_amiss_13 rfl 1 rfl ?_
  refine g_iconst X (v := (4 : Int32)) dMO_amiss_14 (by decide) ?_
  refine g_iadd X dMO_amiss_15 ?_
  refine g_callV X hK gTs_ok ly_41 rfl mw_MO_read4 tw_1251 mi_MO_read4 ms_MO_read4 (As := [.int (r1 + (4 : Int32))]) rfl ⟨(Nat.le_of_ble_eq_true rfl), (Nat.le_of_ble_eq_true rfl), Nat.le_refl _, Nat.le_refl _⟩ (m_MO_read4 h) (rest := []) rfl (Nat.le_of_ble_eq_true rfl) dMO_amiss_16 (gk_l (fun r5 M6 h => ?_))
  refine g_lstore X (L' := [(4, .long r5), (3, .int r3), (2, .int r1), (0, .ref (base + 41)), (1, .int a0)]) dMO_amiss_19 (Nat.le_of_ble_eq_true rfl) rfl ?_
  refine g_aload_n X dMO_amiss_21 rfl 3 rfl ?_
  refine g_iload_n X dMO_amiss_22 rfl 2 rfl ?_
  refine g_bipush X (v := (8 : Int32)) dMO_amiss_23 (by decide) ?_
  refine g_iadd X dMO_amiss_25 ?_
  refine g_callV X hK gTs_ok ly_41 rfl mw_MO_read4 tw_1251 mi_MO_read4 ms_MO_read4 (As := [.int (r1 + (8 : Int32))]) rfl ⟨(Nat.le_of_ble_eq_true rfl), (Nat.le_of_ble_eq_true rfl), Nat.le_refl _, Nat.le_refl _⟩ (m_MO_read4 h) (rest := []) rfl (Nat.le_of_ble_eq_true rfl) dMO_amiss_26 (gk_l (fun r7 M8 h => ?_))
  refine g_lstore X (L' := [(6, .long r7), (4, .long r5), (3, .int r3), (2, .int r1), (0, .ref (base + 41)), (1, .int a0)]) dMO_amiss_29 (Nat.le_of_ble_eq_true rfl) rfl ?_
  refine g_iload_n X dMO_amiss_31 rfl 2 rfl ?_
  refine g_iconst X (v := (-1 : Int32)) dMO_amiss_32 (by decide) ?_
  refine g_icmp_ne X dMO_amiss_33 (fun c => ?_) (fun c => ?_)
  · have h := h.1 c
    refine g_iload_n X dMO_amiss_74 rfl 2 rfl ?_
    refine g_iconst X (v := (5 : Int32)) dMO_amiss_75 (by decide) ?_
    refine g_icmp_ne X dMO_amiss_76 (fun c => ?_) (fun c => ?_)
    · have h := h.1 c
      refine g_iload_n X dMO_amiss_138 rfl 2 rfl ?_
      refine g_iconst X (v := (4 : Int32)) dMO_amiss_139 (by decide) ?_
      refine g_icmp_ne X dMO_amiss_140 (fun c => ?_) (fun c => ?_)
      · have h := h.1 c
        refine g_lload X dMO_amiss_159 1 rfl ?_
        refine g_aload_n X dMO_amiss_161 rfl 4 rfl ?_
        refine g_iload_n X dMO_amiss_162 rfl 2 rfl ?_
        refine g_callV X hK gTs_ok ly_41 rfl mw_MO_bytesOf tw_1299 mi_MO_bytesOf ms_MO_bytesOf (As := [.int r3]) rfl ⟨(Nat.le_of_ble_eq_true rfl), (Nat.le_of_ble_eq_true rfl), Nat.le_refl _, Nat.le_refl _⟩ (m_MO_bytesOf h) (rest := [.long r5]) rfl (Nat.le_of_ble_eq_true rfl) dMO_amiss_163 (gk_l (fun r9 M10 h => ?_))
        refine g_lif_le X dMO_amiss_166 dMO_amiss_167 (fun c => ?_) (fun c => ?_)
        · have h := h.1 c
          refine g_lload X dMO_amiss_174 1 rfl ?_
          refine g_lload X dMO_amiss_176 0 rfl ?_
          refine g_ladd X dMO_amiss_178 ?_
          refine g_aload_n X dMO_amiss_179 rfl 4 rfl ?_
          refine g_iload_n X dMO_amiss_180 rfl 2 rfl ?_
          refine g_callV X hK gTs_ok ly_41 rfl mw_MO_bytesOf tw_1299 mi_MO_bytesOf ms_MO_bytesOf (As := [.int r3]) rfl ⟨(Nat.le_of_ble_eq_true rfl), (Nat.le_of_ble_eq_true rfl), Nat.le_refl _, Nat.le_refl _⟩ (m_MO_bytesOf h) (rest := [.long (r5 + r7)]) rfl (Nat.le_of_ble_eq_true rfl) dMO_amiss_181 (gk_l (fun r11 M12 h => ?_))
          refine g_lif_le X dMO_amiss_184 dMO_amiss_185 (fun c => ?_) (fun c => ?_)
          · have h := h.1 c
            refine g_iconst X (v := (0 : Int32)) dMO_amiss_193 (by decide) ?_
            exact g_iret X hr hlk dMO_amiss_194 ⟨_, rfl, h⟩
          · have h := h.2 c
            refine g_bipush X (v := (8 : Int32)) dMO_amiss_188 (by decide) ?_
            refine g_goto X dMO_amiss_190 ?_
            exact g_iret X hr hlk dMO_amiss_194 ⟨_, rfl, h⟩
        · have h := h.2 c
          refine g_iconst X (v := (4 : Int32)) dMO_amiss_170 (by decide) ?_
          refine g_goto X dMO_amiss_171 ?_
          exact g_iret X hr hlk dMO_amiss_194 ⟨_, rfl, h⟩
      · have h := h.2 c
        refine g_lload X dMO_amiss_143 0 rfl ?_
        refine g_ldc2 X (v := (2147483647 : Int64)) (tw_1343) dMO_amiss_145 ?_
        refine g_lif_le X dMO_amiss_148 dMO_amiss_149 (fun c => ?_) (fun c => ?_)
        · have h := h.1 c
          refine g_iconst X (v := (0 : Int32)) dMO_amiss_157 (by decide) ?_
          exact g_iret X hr hlk dMO_amiss_158 ⟨_, rfl, h⟩
        · have h := h.2 c
          refine g_bipush X (v := (8 : Int32)) dMO_amiss_152 (by decide) ?_
          refine g_goto X dMO_amiss_154 ?_
          exact g_iret X hr hlk dMO_amiss_158 ⟨_, rfl, h⟩
    · have h := h.2 c
      refine g_lload X dMO_amiss_79 1 rfl ?_
      refine g_ldc2 X (v := (64 : Int64)) (tw_1272) dMO_amiss_81 ?_
      refine g_lif_gt X dMO_amiss_84 dMO_amiss_85 (fun c => ?_) (fun c => ?_)
      · have h := h.1 c
        refine g_iconst X (v := (4 : Int32)) dMO_amiss_97 (by decide) ?_
        refine g_goto X dMO_amiss_98 ?_
        exact g_iret X hr hlk dMO_amiss_137 ⟨_, rfl, h⟩
      · have h := h.2 c
        refine g_lload X dMO_amiss_88 1 rfl ?_
        refine g_l2i X dMO_amiss_90 rfl ?_
        refine g_callS X hK gTs_ok mw_MO_isPower tw_1100 mt_MO_isPower (As := [.int (r5.toInt32)]) rfl ⟨(Nat.le_of_ble_eq_true rfl), (Nat.le_of_ble_eq_true rfl), Nat.le_refl _, Nat.le_refl _⟩ (m_MO_isPower h) (rest := []) rfl (Nat.le_of_ble_eq_true rfl) dMO_amiss_91 (gk_z (fun r13 M14 h => ?_))
        refine g_if_ne X dMO_amiss_94 (fun c => ?_) (fun c => ?_)
        · have h := h.1 c
          refine g_lload X dMO_amiss_101 0 rfl ?_
          refine g_lconst X (v := (1 : Int64)) dMO_amiss_103 (by decide) ?_
          refine g_lif_lt X dMO_amiss_104 dMO_amiss_105 (fun c => ?_) (fun c => ?_)
          · have h := h.1 c
            refine g_bipush X (v := (8 : Int32)) dMO_amiss_117 (by decide) ?_
            refine g_goto X dMO_amiss_119 ?_
            exact g_iret X hr hlk dMO_amiss_137 ⟨_, rfl, h⟩
          · have h := h.2 c
            refine g_lload X dMO_amiss_108 0 rfl ?_
            refine g_ldc2 X (v := (4096 : Int64)) (tw_1295) dMO_amiss_110 ?_
            refine g_lif_le X dMO_amiss_113 dMO_amiss_114 (fun c => ?_) (fun c => ?_)
            · have h := h.1 c
              refine g_aload_n X dMO_amiss_122 rfl 4 rfl ?_
              refine g_iload_n X dMO_amiss_123 rfl 5 rfl ?_
              refine g_callV X hK gTs_ok ly_41 rfl mw_MO_bindOf tw_1331 mi_MO_bindOf ms_MO_bindOf (As := [.int a0]) rfl ⟨(Nat.le_of_ble_eq_true rfl), (Nat.le_of_ble_eq_true rfl), Nat.le_refl _, Nat.le_refl _⟩ (m_MO_bindOf h) (rest := []) rfl (Nat.le_of_ble_eq_true rfl) dMO_amiss_124 (gk_i (fun r15 M16 h => ?_))
              refine g_iconst X (v := (1 : Int32)) dMO_amiss_127 (by decide) ?_
              refine g_icmp_eq X dMO_amiss_128 (fun c => ?_) (fun c => ?_)
              · have h := h.1 c
                refine g_iconst X (v := (0 : Int32)) dMO_amiss_136 (by decide) ?_
                exact g_iret X hr hlk dMO_amiss_137 ⟨_, rfl, h⟩
              · have h := h.2 c
                refine g_bipush X (v := (12 : Int32)) dMO_amiss_131 (by decide) ?_
                refine g_goto X dMO_amiss_133 ?_
                exact g_iret X hr hlk dMO_amiss_137 ⟨_, rfl, h⟩
            · have h := h.2 c
              refine g_bipush X (v := (8 : Int32)) dMO_amiss_117 (by decide) ?_
              refine g_goto X dMO_amiss_119 ?_
              exact g_iret X hr hlk dMO_amiss_137 ⟨_, rfl, h⟩
        · have h := h.2 c
          refine g_iconst X (v := (4 : Int32)) dMO_amiss_97 (by decide) ?_
          refine g_goto X dMO_amiss_98 ?_
          exact g_iret X hr hlk dMO_amiss_137 ⟨_, rfl, h⟩
  · have h := h.2 c
    refine g_lload X dMO_amiss_36 1 rfl ?_
    refine g_lconst X (v := (0 : Int64)) dMO_amiss_38 (by decide) ?_
    refine g_lif_eq X dMO_amiss_39 dMO_amiss_40 (fun c => ?_) (fun c => ?_)
    · have h := h.1 c
      refine g_lload X dMO_amiss_47 0 rfl ?_
      refine g_lconst X (v := (0 : Int64)) dMO_amiss_49 (by decide) ?_
      refine g_lif_eq X dMO_amiss_50 dMO_amiss_51 (fun c => ?_) (fun c => ?_)
      · have h := h.1 c
        refine g_aload_n X dMO_amiss_59 rfl 4 rfl ?_
        refine g_iload_n X dMO_amiss_60 rfl 5 rfl ?_
        refine g_callV X hK gTs_ok ly_41 rfl mw_MO_bindOf tw_1331 mi_MO_bindOf ms_MO_bindOf (As := [.int a0]) rfl ⟨(Nat.le_of_ble_eq_true rfl), (Nat.le_of_ble_eq_true rfl), Nat.le_refl _, Nat.le_refl _⟩ (m_MO_bindOf h) (rest := []) rfl (Nat.le_of_ble_eq_true rfl) dMO_amiss_61 (gk_i (fun r17 M18 h => ?_))
        refine g_if_ne X dMO_amiss_64 (fun c => ?_) (fun c => ?_)
        · have h := h.1 c
          refine g_iconst X (v := (0 : Int32)) dMO_amiss_72 (by decide) ?_
          exact g_iret X hr hlk dMO_amiss_73 ⟨_, rfl, h⟩
        · have h := h.2 c
          refine g_bipush X (v := (12 : Int32)) dMO_amiss_67 (by decide) ?_
          refine g_goto X dMO_amiss_69 ?_
          exact g_iret X hr hlk dMO_amiss_73 ⟨_, rfl, h⟩
      · have h := h.2 c
        refine g_bipush X (v := (8 : Int32)) dMO_amiss_54 (by decide) ?_
        refine g_goto X dMO_amiss_56 ?_
        exact g_iret X hr hlk dMO_amiss_73 ⟨_, rfl, h⟩
    · have h := h.2 c
      refine g_iconst X (v := (4 : Int32)) dMO_amiss_43 (by decide) ?_
      refine g_goto X dMO_amiss_44 ?_
      exact g_iret X hr hlk dMO_amiss_73 ⟨_, rfl, h⟩
set_option maxRecDepth 100000 in
set_option maxHeartbeats 4000000 in
theorem m_MO_isSameIn {l : Launch} {D : va_G} {ta : Nat → ClassId} {base : Nat} {sa : Nat → Nat} {post : Bool → gMem → Prop} {a0 : Int32} {a1 : Int32} {M : gMem} (h : wp_MO_isSameIn post a0 a1 M) : GC gLay gCl D ta base gNw sa gTabs gTs l y_MO_isSameIn b_MO_isSameIn 6 (some .boolean) 6 127 [.ref (base + 41), .int a0, .int a1] M (gPz post) := by
  refine GC.of (own := "ObjectFileModel") pn_MO rfl (Nat.le_of_ble_eq_true rfl) ?_
  intro p e s m below meth c X hK hr hlk
  have r_56 : ∀ (v3 : Int32) (v4 : Int32) (v5 : Int32) (M : gMem), wj_MO_isSameIn_56 post v3 v4 v5 M → GMx D ta base p l e 6 127 s m [.ref (base + 41), .int a0, .int a1] below meth c (gPz post) 6 56 [(0, .ref (base + 41)), (3, .int v3), (4, .int v4), (5, .int v5)] [] M := by
    intro v3 v4 v5 M h
    unfold wj_MO_isSameIn_56 at h
    refine g_aload_n X dMO_isSameIn_56 rfl 0 rfl ?_
    refine g_getr X hK.1 fw_MO_70 ly_41 rfl dMO_isSameIn_57 ?_
    refine g_iload_n X dMO_isSameIn_60 rfl 1 rfl ?_
    refine g_iload X dMO_isSameIn_61 3 rfl ?_
    refine g_iadd X dMO_isSameIn_63 ?_
    obtain ⟨hi, h⟩ := h
    refine g_iald X hK.1 ly_62 hi dMO_isSameIn_64 ?_
    refine g_aload_n X dMO_isSameIn_65 rfl 0 rfl ?_
    refine g_getr X hK.1 fw_MO_70 ly_41 rfl dMO_isSameIn_66 ?_
    refine g_iload X dMO_isSameIn_69 2 rfl ?_
    refine g_iload X dMO_isSameIn_71 3 rfl ?_
    refine g_iadd X dMO_isSameIn_73 ?_
    obtain ⟨hi, h⟩ := h
    refine g_iald X hK.1 ly_62 hi dMO_isSameIn_74 ?_
    refine g_icmp_ne X dMO_isSameIn_75 (fun c => ?_) (fun c => ?_)
    · have h := h.1 c
      refine g_iconst X (v := (0 : Int32)) dMO_isSameIn_82 (by decide) ?_
      exact g_zret X hr hlk (by decide) dMO_isSameIn_83 ⟨false, rfl, h⟩
    · have h := h.2 c
      refine g_iconst X (v := (1 : Int32)) dMO_isSameIn_78 (by decide) ?_
      refine g_goto X dMO_isSameIn_79 ?_
      exact g_zret X hr hlk (by decide) dMO_isSameIn_83 ⟨true, rfl, h⟩
  have r_16 : ∀ (n : Nat) (v3 : Int32) (v4 : Int32) (v5 : Int32) (M : gMem), wl_MO_isSameIn_16 post n v3 v4 v5 M → GMx D ta base p l e 6 127 s m [.ref (base + 41), .int a0, .int a1] below meth c (gPz post) 6 16 [(0, .ref (base + 41)), (3, .int v3), (4, .int v4), (5, .int v5)] [] M := by
    intro n
    induction n with
    | zero => exact fun _ _ _ M h => h.elim
    | succ n ih =>
      intro v3 v4 v5 M h
      refine g_aload_n X dMO_isSameIn_16 rfl 0 rfl ?_
      refine g_getr X hK.1 fw_MO_70 ly_41 rfl dMO_isSameIn_17 ?_
      refine g_iload_n X dMO_isSameIn_20 rfl 1 rfl ?_
      refine g_iload X dMO_isSameIn_21 3 rfl ?_
      refine g_iadd X dMO_isSameIn_23 ?_
      obtain ⟨hi, h⟩ := h
      refine g_iald X hK.1 ly_62 hi dMO_isSameIn_24 ?_
      refine g_if_eq X dMO_isSameIn_25 (fun c => ?_) (fun c => ?_)
      · have h := h.1 c
        exact r_56 v3 v4 v5 M h
      · have h := h.2 c
        refine g_aload_n X dMO_isSameIn_28 rfl 0 rfl ?_
        refine g_getr X hK.1 fw_MO_70 ly_41 rfl dMO_isSameIn_29 ?_
        refine g_iload_n X dMO_isSameIn_32 rfl 1 rfl ?_
        refine g_iload X dMO_isSameIn_33 3 rfl ?_
        refine g_iadd X dMO_isSameIn_35 ?_
        obtain ⟨hi, h⟩ := h
        refine g_iald X hK.1 ly_62 hi dMO_isSameIn_36 ?_
        refine g_aload_n X dMO_isSameIn_37 rfl 0 rfl ?_
        refine g_getr X hK.1 fw_MO_70 ly_41 rfl dMO_isSameIn_38 ?_
        refine g_iload X dMO_isSameIn_41 2 rfl ?_
        refine g_iload X dMO_isSameIn_43 3 rfl ?_
        refine g_iadd X dMO_isSameIn_45 ?_
        obtain ⟨hi, h⟩ := h
        refine g_iald X hK.1 ly_62 hi dMO_isSameIn_46 ?_
        refine g_icmp_ne X dMO_isSameIn_47 (fun c => ?_) (fun c => ?_)
        · have h := h.1 c
          exact r_56 v3 v4 v5 M h
        · have h := h.2 c
          obtain ⟨x5, ex5⟩ : ∃ z : Int32, z = v5 + (1 : Int32) := ⟨_, rfl⟩
          have h := h x5 ex5
          refine g_iinc X (L' := [(5, .int x5), (0, .ref (base + 41)), (3, .int v3), (4, .int v4)]) (k := 3) dMO_isSameIn_50 rfl (v := x5) (by rw [ex5]; rfl) (Nat.le_of_ble_eq_true rfl) rfl ?_
          refine g_goto X dMO_isSameIn_53 ?_
          refine g_sub (L' := [(0, .ref (base + 41)), (3, .int v3), (4, .int v4), (5, .int x5)]) [1, 2, 3, 0] rfl ?_
          exact ih v3 v4 x5 M h
  refine g_args (L' := [(0, .ref (base + 41)), (1, .int a0), (2, .int a1)]) rfl ?_
  unfold wp_MO_isSameIn at h
  refine g_aload_n X dMO_isSameIn_0 rfl 0 rfl ?_
  refine g_iload_n X dMO_isSameIn_1 rfl 1 rfl ?_
  refine g_callV X hK gTs_ok ly_41 rfl mw_MO_namePlace tw_1319 mi_MO_namePlace ms_MO_namePlace (As := [.int a0]) rfl ⟨(Nat.le_of_ble_eq_true rfl), (Nat.le_of_ble_eq_true rfl), Nat.le_refl _, Nat.le_refl _⟩ (m_MO_namePlace h) (rest := []) rfl (Nat.le_of_ble_eq_true rfl) dMO_isSameIn_2 (gk_i (fun r1 M2 h => ?_))
  refine g_istore_n X (L' := [(3, .int r1), (0, .ref (base + 41)), (1, .int a0), (2, .int a1)]) dMO_isSameIn_5 rfl (Nat.le_of_ble_eq_true rfl) rfl ?_
  refine g_aload_n X dMO_isSameIn_6 rfl 1 rfl ?_
  refine g_iload_n X dMO_isSameIn_7 rfl 3 rfl ?_
  refine g_callV X hK gTs_ok ly_41 rfl mw_MO_namePlace tw_1319 mi_MO_namePlace ms_MO_namePlace (As := [.int a1]) rfl ⟨(Nat.le_of_ble_eq_true rfl), (Nat.le_of_ble_eq_true rfl), Nat.le_refl _, Nat.le_refl _⟩ (m_MO_namePlace h) (rest := []) rfl (Nat.le_of_ble_eq_true rfl) dMO_isSameIn_8 (gk_i (fun r3 M4 h => ?_))
  refine g_istore X (L' := [(4, .int r3), (3, .int r1), (0, .ref (base + 41)), (1, .int a0), (2, .int a1)]) dMO_isSameIn_11 (Nat.le_of_ble_eq_true rfl) rfl ?_
  refine g_iconst X (v := (0 : Int32)) dMO_isSameIn_13 (by decide) ?_
  refine g_istore X (L' := [(5, .int (0 : Int32)), (4, .int r3), (3, .int r1), (0, .ref (base + 41)), (1, .int a0), (2, .int a1)]) dMO_isSameIn_14 (Nat.le_of_ble_eq_true rfl) rfl ?_
  refine g_sub (L' := [(0, .ref (base + 41)), (3, .int r1), (4, .int r3), (5, .int (0 : Int32))]) [3, 2, 1, 0] rfl ?_
  obtain ⟨n9, h⟩ := h
  exact r_16 n9 r1 r3 (0 : Int32) M4 h
set_option maxRecDepth 100000 in
set_option maxHeartbeats 4000000 in
theorem m_MO_symbolFault {l : Launch} {D : va_G} {ta : Nat → ClassId} {base : Nat} {sa : Nat → Nat} {post : Int32 → gMem → Prop} {a0 : Int32} {M : gMem} (h : wp_MO_symbolFault post a0 M) : GC gLay gCl D ta base gNw sa gTabs gTs l y_MO_symbolFault b_MO_symbolFault 6 (some .int) 7 156 [.ref (base + 41), .int a0] M (gPi post) := by
  refine GC.of (own := "ObjectFileModel") pn_MO rfl (Nat.le_of_ble_eq_true rfl) ?_
  intro p e s m below meth c X hK hr hlk
  have r_111 : ∀ (v2 : Int32) (M : gMem), wj_MO_symbolFault_111 post v2 M → GMx D ta base p l e 7 156 s m [.ref (base + 41), .int a0] below meth c (gPi post) 6 111 [(0, .ref (base + 41)), (2, .int v2)] [] M := by
    intro v2 M h
    unfold wj_MO_symbolFault_111 at h
    refine g_aload_n X dMO_symbolFault_111 rfl 0 rfl ?_
    refine g_bipush X (v := (23 : Int32)) dMO_symbolFault_112 (by decide) ?_
    refine g_iload_n X dMO_symbolFault_114 rfl 1 rfl ?_
    refine g_bipush X (v := (12 : Int32)) dMO_symbolFault_115 (by decide) ?_
    refine g_iadd X dMO_symbolFault_117 ?_
    refine g_callV X hK gTs_ok ly_41 rfl mw_MO_fault tw_1243 mi_MO_fault ms_MO_fault (As := [.int (23 : Int32), .int (v2 + (12 : Int32))]) rfl ⟨(Nat.le_of_ble_eq_true rfl), (Nat.le_of_ble_eq_true rfl), Nat.le_refl _, Nat.le_refl _⟩ (m_MO_fault h) (rest := []) rfl (Nat.le_of_ble_eq_true rfl) dMO_symbolFault_118 (gk_i (fun r14 M15 h => ?_))
    exact g_iret X hr hlk dMO_symbolFault_121 ⟨_, rfl, h⟩
  have r_224 : ∀ (n : Nat) (v1 : Int32) (v2 : Int32) (v3 : Int32) (v5 : Int32) (M : gMem), wl_MO_symbolFault_224 post n v1 v2 v3 v5 M → GMx D ta base p l e 7 156 s m [.ref (base + 41), .int a0] below meth c (gPi post) 6 224 [(0, .ref (base + 41)), (1, .int v1), (2, .int v2), (3, .int v3), (5, .int v5)] [] M := by
    intro n
    induction n with
    | zero => exact fun _ _ _ _ M h => h.elim
    | succ n ih =>
      intro v1 v2 v3 v5 M h
      refine g_iload X dMO_symbolFault_224 4 rfl ?_
      refine g_iload_n X dMO_symbolFault_226 rfl 1 rfl ?_
      refine g_icmp_ge X dMO_symbolFault_227 (fun c => ?_) (fun c => ?_)
      · have h := h.1 c
        refine g_iconst X (v := (0 : Int32)) dMO_symbolFault_269 (by decide) ?_
        exact g_iret X hr hlk dMO_symbolFault_270 ⟨_, rfl, h⟩
      · have h := h.2 c
        refine g_iload_n X dMO_symbolFault_230 rfl 3 rfl ?_
        refine g_iconst X (v := (4 : Int32)) dMO_symbolFault_231 (by decide) ?_
        refine g_ishr X dMO_symbolFault_232 ?_
        refine g_if_eq X dMO_symbolFault_233 (fun c => ?_) (fun c => ?_)
        · have h := h.1 c
          refine g_iconst X (v := (0 : Int32)) dMO_symbolFault_269 (by decide) ?_
          exact g_iret X hr hlk dMO_symbolFault_270 ⟨_, rfl, h⟩
        · have h := h.2 c
          refine g_aload_n X dMO_symbolFault_236 rfl 0 rfl ?_
          refine g_iload X dMO_symbolFault_237 4 rfl ?_
          refine g_callV X hK gTs_ok ly_41 rfl mw_MO_bindOf tw_1331 mi_MO_bindOf ms_MO_bindOf (As := [.int v5]) rfl ⟨(Nat.le_of_ble_eq_true rfl), (Nat.le_of_ble_eq_true rfl), Nat.le_refl _, Nat.le_refl _⟩ (m_MO_bindOf h) (rest := []) rfl (Nat.le_of_ble_eq_true rfl) dMO_symbolFault_239 (gk_i (fun r20 M21 h => ?_))
          refine g_if_eq X dMO_symbolFault_242 (fun c => ?_) (fun c => ?_)
          · have h := h.1 c
            obtain ⟨x22, ex22⟩ : ∃ z : Int32, z = v5 + (1 : Int32) := ⟨_, rfl⟩
            have h := h x22 ex22
            refine g_iinc X (L' := [(5, .int x22), (0, .ref (base + 41)), (1, .int v1), (2, .int v2), (3, .int v3)]) (k := 4) dMO_symbolFault_263 rfl (v := x22) (by rw [ex22]; rfl) (Nat.le_of_ble_eq_true rfl) rfl ?_
            refine g_goto X dMO_symbolFault_266 ?_
            refine g_sub (L' := [(0, .ref (base + 41)), (1, .int v1), (2, .int v2), (3, .int v3), (5, .int x22)]) [1, 2, 3, 4, 0] rfl ?_
            exact ih v1 v2 v3 x22 M21 h
          · have h := h.2 c
            refine g_aload_n X dMO_symbolFault_245 rfl 0 rfl ?_
            refine g_iload_n X dMO_symbolFault_246 rfl 1 rfl ?_
            refine g_iload X dMO_symbolFault_247 4 rfl ?_
            refine g_callV X hK gTs_ok ly_41 rfl mw_MO_isSameIn tw_1344 mi_MO_isSameIn ms_MO_isSameIn (As := [.int v1, .int v5]) rfl ⟨(Nat.le_of_ble_eq_true rfl), (Nat.le_of_ble_eq_true rfl), Nat.le_refl _, Nat.le_refl _⟩ (m_MO_isSameIn h) (rest := []) rfl (Nat.le_of_ble_eq_true rfl) dMO_symbolFault_249 (gk_z (fun r23 M24 h => ?_))
            refine g_if_eq X dMO_symbolFault_252 (fun c => ?_) (fun c => ?_)
            · have h := h.1 c
              obtain ⟨x25, ex25⟩ : ∃ z : Int32, z = v5 + (1 : Int32) := ⟨_, rfl⟩
              have h := h x25 ex25
              refine g_iinc X (L' := [(5, .int x25), (0, .ref (base + 41)), (1, .int v1), (2, .int v2), (3, .int v3)]) (k := 4) dMO_symbolFault_263 rfl (v := x25) (by rw [ex25]; rfl) (Nat.le_of_ble_eq_true rfl) rfl ?_
              refine g_goto X dMO_symbolFault_266 ?_
              refine g_sub (L' := [(0, .ref (base + 41)), (1, .int v1), (2, .int v2), (3, .int v3), (5, .int x25)]) [1, 2, 3, 4, 0] rfl ?_
              exact ih v1 v2 v3 x25 M24 h
            · have h := h.2 c
              refine g_aload_n X dMO_symbolFault_255 rfl 0 rfl ?_
              refine g_bipush X (v := (27 : Int32)) dMO_symbolFault_256 (by decide) ?_
              refine g_iload_n X dMO_symbolFault_258 rfl 2 rfl ?_
              refine g_callV X hK gTs_ok ly_41 rfl mw_MO_fault tw_1243 mi_MO_fault ms_MO_fault (As := [.int (27 : Int32), .int v2]) rfl ⟨(Nat.le_of_ble_eq_true rfl), (Nat.le_of_ble_eq_true rfl), Nat.le_refl _, Nat.le_refl _⟩ (m_MO_fault h) (rest := []) rfl (Nat.le_of_ble_eq_true rfl) dMO_symbolFault_259 (gk_i (fun r26 M27 h => ?_))
              exact g_iret X hr hlk dMO_symbolFault_262 ⟨_, rfl, h⟩
  have r_177 : ∀ (v1 : Int32) (v2 : Int32) (v3 : Int32) (M : gMem), wj_MO_symbolFault_177 post v1 v2 v3 M → GMx D ta base p l e 7 156 s m [.ref (base + 41), .int a0] below meth c (gPi post) 6 177 [(0, .ref (base + 41)), (1, .int v1), (2, .int v2), (3, .int v3)] [] M := by
    intro v1 v2 v3 M h
    unfold wj_MO_symbolFault_177 at h
    refine g_aload_n X dMO_symbolFault_177 rfl 0 rfl ?_
    refine g_iload_n X dMO_symbolFault_178 rfl 1 rfl ?_
    refine g_callV X hK gTs_ok ly_41 rfl mw_MO_whereOf tw_1335 mi_MO_whereOf ms_MO_whereOf (As := [.int v1]) rfl ⟨(Nat.le_of_ble_eq_true rfl), (Nat.le_of_ble_eq_true rfl), Nat.le_refl _, Nat.le_refl _⟩ (m_MO_whereOf h) (rest := []) rfl (Nat.le_of_ble_eq_true rfl) dMO_symbolFault_179 (gk_i (fun r16 M17 h => ?_))
    refine g_bipush X (v := (-2 : Int32)) dMO_symbolFault_182 (by decide) ?_
    refine g_icmp_ne X dMO_symbolFault_184 (fun c => ?_) (fun c => ?_)
    · have h := h.1 c
      refine g_aload_n X dMO_symbolFault_198 rfl 0 rfl ?_
      refine g_iload_n X dMO_symbolFault_199 rfl 1 rfl ?_
      refine g_callV X hK gTs_ok ly_41 rfl mw_MO_amiss tw_1339 mi_MO_amiss ms_MO_amiss (As := [.int v1]) rfl ⟨(Nat.le_of_ble_eq_true rfl), (Nat.le_of_ble_eq_true rfl), Nat.le_refl _, Nat.le_refl _⟩ (m_MO_amiss h) (rest := []) rfl (Nat.le_of_ble_eq_true rfl) dMO_symbolFault_200 (gk_i (fun r18 M19 h => ?_))
      refine g_istore X (L' := [(4, .int r18), (0, .ref (base + 41)), (1, .int v1), (2, .int v2), (3, .int v3)]) dMO_symbolFault_203 (Nat.le_of_ble_eq_true rfl) rfl ?_
      refine g_iload X dMO_symbolFault_205 0 rfl ?_
      refine g_if_le X dMO_symbolFault_207 (fun c => ?_) (fun c => ?_)
      · have h := h.1 c
        refine g_iconst X (v := (1 : Int32)) dMO_symbolFault_221 (by decide) ?_
        refine g_istore X (L' := [(5, .int (1 : Int32)), (4, .int r18), (0, .ref (base + 41)), (1, .int v1), (2, .int v2), (3, .int v3)]) dMO_symbolFault_222 (Nat.le_of_ble_eq_true rfl) rfl ?_
        refine g_sub (L' := [(0, .ref (base + 41)), (1, .int v1), (2, .int v2), (3, .int v3), (5, .int (1 : Int32))]) [2, 3, 4, 5, 0] rfl ?_
        obtain ⟨n9, h⟩ := h
        exact r_224 n9 v1 v2 v3 (1 : Int32) M19 h
      · have h := h.2 c
        refine g_aload_n X dMO_symbolFault_210 rfl 1 rfl ?_
        refine g_bipush X (v := (26 : Int32)) dMO_symbolFault_211 (by decide) ?_
        refine g_iload_n X dMO_symbolFault_213 rfl 3 rfl ?_
        refine g_iload X dMO_symbolFault_214 0 rfl ?_
        refine g_iadd X dMO_symbolFault_216 ?_
        refine g_callV X hK gTs_ok ly_41 rfl mw_MO_fault tw_1243 mi_MO_fault ms_MO_fault (As := [.int (26 : Int32), .int (v2 + r18)]) rfl ⟨(Nat.le_of_ble_eq_true rfl), (Nat.le_of_ble_eq_true rfl), Nat.le_refl _, Nat.le_refl _⟩ (m_MO_fault h) (rest := []) rfl (Nat.le_of_ble_eq_true rfl) dMO_symbolFault_217 (gk_i (fun r28 M29 h => ?_))
        exact g_iret X hr hlk dMO_symbolFault_220 ⟨_, rfl, h⟩
    · have h := h.2 c
      refine g_aload_n X dMO_symbolFault_187 rfl 0 rfl ?_
      refine g_bipush X (v := (25 : Int32)) dMO_symbolFault_188 (by decide) ?_
      refine g_iload_n X dMO_symbolFault_190 rfl 2 rfl ?_
      refine g_bipush X (v := (14 : Int32)) dMO_symbolFault_191 (by decide) ?_
      refine g_iadd X dMO_symbolFault_193 ?_
      refine g_callV X hK gTs_ok ly_41 rfl mw_MO_fault tw_1243 mi_MO_fault ms_MO_fault (As := [.int (25 : Int32), .int (v2 + (14 : Int32))]) rfl ⟨(Nat.le_of_ble_eq_true rfl), (Nat.le_of_ble_eq_true rfl), Nat.le_refl _, Nat.le_refl _⟩ (m_MO_fault h) (rest := []) rfl (Nat.le_of_ble_eq_true rfl) dMO_symbolFault_194 (gk_i (fun r30 M31 h => ?_))
      exact g_iret X hr hlk dMO_symbolFault_197 ⟨_, rfl, h⟩
  have r_45 : ∀ (v1 : Int32) (v2 : Int32) (M : gMem), wj_MO_symbolFault_45 post v1 v2 M → GMx D ta base p l e 7 156 s m [.ref (base + 41), .int a0] below meth c (gPi post) 6 45 [(0, .ref (base + 41)), (1, .int v1), (2, .int v2)] [] M := by
    intro v1 v2 M h
    unfold wj_MO_symbolFault_45 at h
    refine g_iload_n X dMO_symbolFault_45 rfl 1 rfl ?_
    refine g_if_ne X dMO_symbolFault_46 (fun c => ?_) (fun c => ?_)
    · have h := h.1 c
      refine g_aload_n X dMO_symbolFault_51 rfl 0 rfl ?_
      refine g_iload_n X dMO_symbolFault_52 rfl 2 rfl ?_
      refine g_callV X hK gTs_ok ly_41 rfl mw_MO_read4 tw_1251 mi_MO_read4 ms_MO_read4 (As := [.int v2]) rfl ⟨(Nat.le_of_ble_eq_true rfl), (Nat.le_of_ble_eq_true rfl), Nat.le_refl _, Nat.le_refl _⟩ (m_MO_read4 h) (rest := []) rfl (Nat.le_of_ble_eq_true rfl) dMO_symbolFault_53 (gk_l (fun r3 M4 h => ?_))
      refine g_aload_n X dMO_symbolFault_56 rfl 0 rfl ?_
      refine g_bipush X (v := (9 : Int32)) dMO_symbolFault_57 (by decide) ?_
      refine g_callV X hK gTs_ok ly_41 rfl mw_MO_bytesOf tw_1299 mi_MO_bytesOf ms_MO_bytesOf (As := [.int (9 : Int32)]) rfl ⟨(Nat.le_of_ble_eq_true rfl), (Nat.le_of_ble_eq_true rfl), Nat.le_refl _, Nat.le_refl _⟩ (m_MO_bytesOf h) (rest := [.long r3]) rfl (Nat.le_of_ble_eq_true rfl) dMO_symbolFault_59 (gk_l (fun r5 M6 h => ?_))
      refine g_lif_ge X dMO_symbolFault_62 dMO_symbolFault_63 (fun c => ?_) (fun c => ?_)
      · have h := h.1 c
        refine g_aload_n X dMO_symbolFault_78 rfl 0 rfl ?_
        refine g_bipush X (v := (22 : Int32)) dMO_symbolFault_79 (by decide) ?_
        refine g_iload_n X dMO_symbolFault_81 rfl 2 rfl ?_
        refine g_callV X hK gTs_ok ly_41 rfl mw_MO_fault tw_1243 mi_MO_fault ms_MO_fault (As := [.int (22 : Int32), .int v2]) rfl ⟨(Nat.le_of_ble_eq_true rfl), (Nat.le_of_ble_eq_true rfl), Nat.le_refl _, Nat.le_refl _⟩ (m_MO_fault h) (rest := []) rfl (Nat.le_of_ble_eq_true rfl) dMO_symbolFault_82 (gk_i (fun r7 M8 h => ?_))
        exact g_iret X hr hlk dMO_symbolFault_85 ⟨_, rfl, h⟩
      · have h := h.2 c
        refine g_aload_n X dMO_symbolFault_66 rfl 0 rfl ?_
        refine g_aload_n X dMO_symbolFault_67 rfl 0 rfl ?_
        refine g_iload_n X dMO_symbolFault_68 rfl 1 rfl ?_
        refine g_callV X hK gTs_ok ly_41 rfl mw_MO_namePlace tw_1319 mi_MO_namePlace ms_MO_namePlace (As := [.int v1]) rfl ⟨(Nat.le_of_ble_eq_true rfl), (Nat.le_of_ble_eq_true rfl), Nat.le_refl _, Nat.le_refl _⟩ (m_MO_namePlace h) (rest := [.ref (base + 41)]) rfl (Nat.le_of_ble_eq_true rfl) dMO_symbolFault_69 (gk_i (fun r9 M10 h => ?_))
        refine g_callV X hK gTs_ok ly_41 rfl mw_MO_isName tw_1323 mi_MO_isName ms_MO_isName (As := [.int r9]) rfl ⟨(Nat.le_of_ble_eq_true rfl), (Nat.le_of_ble_eq_true rfl), Nat.le_refl _, Nat.le_refl _⟩ (m_MO_isName h) (rest := []) rfl (Nat.le_of_ble_eq_true rfl) dMO_symbolFault_72 (gk_z (fun r11 M12 h => ?_))
        refine g_if_ne X dMO_symbolFault_75 (fun c => ?_) (fun c => ?_)
        · have h := h.1 c
          refine g_aload_n X dMO_symbolFault_86 rfl 0 rfl ?_
          refine g_getr X hK.1 fw_MO_70 ly_41 rfl dMO_symbolFault_87 ?_
          refine g_iload_n X dMO_symbolFault_90 rfl 2 rfl ?_
          refine g_bipush X (v := (12 : Int32)) dMO_symbolFault_91 (by decide) ?_
          refine g_iadd X dMO_symbolFault_93 ?_
          obtain ⟨hi, h⟩ := h
          refine g_iald X hK.1 ly_62 hi dMO_symbolFault_94 ?_
          refine g_topi (fun x13 ex13 => ?_)
          have h := h x13 ex13
          refine g_istore_n X (L' := [(3, .int x13), (0, .ref (base + 41)), (1, .int v1), (2, .int v2)]) dMO_symbolFault_95 rfl (Nat.le_of_ble_eq_true rfl) rfl ?_
          refine g_iload_n X dMO_symbolFault_96 rfl 0 rfl ?_
          refine g_iconst X (v := (4 : Int32)) dMO_symbolFault_97 (by decide) ?_
          refine g_ishr X dMO_symbolFault_98 ?_
          refine g_iconst X (v := (2 : Int32)) dMO_symbolFault_99 (by decide) ?_
          refine g_icmp_gt X dMO_symbolFault_100 (fun c => ?_) (fun c => ?_)
          · have h := h.1 c
            refine g_sub (L' := [(0, .ref (base + 41)), (2, .int v2)]) [1, 3] rfl ?_
            exact r_111 v2 M12 h
          · have h := h.2 c
            refine g_iload_n X dMO_symbolFault_103 rfl 0 rfl ?_
            refine g_bipush X (v := (15 : Int32)) dMO_symbolFault_104 (by decide) ?_
            refine g_iand X dMO_symbolFault_106 ?_
            refine g_iconst X (v := (2 : Int32)) dMO_symbolFault_107 (by decide) ?_
            refine g_icmp_le X dMO_symbolFault_108 (fun c => ?_) (fun c => ?_)
            · have h := h.1 c
              refine g_aload_n X dMO_symbolFault_122 rfl 1 rfl ?_
              refine g_getr X hK.1 fw_MO_70 ly_41 rfl dMO_symbolFault_123 ?_
              refine g_iload_n X dMO_symbolFault_126 rfl 3 rfl ?_
              refine g_bipush X (v := (13 : Int32)) dMO_symbolFault_127 (by decide) ?_
              refine g_iadd X dMO_symbolFault_129 ?_
              obtain ⟨hi, h⟩ := h
              refine g_iald X hK.1 ly_62 hi dMO_symbolFault_130 ?_
              refine g_if_eq X dMO_symbolFault_131 (fun c => ?_) (fun c => ?_)
              · have h := h.1 c
                refine g_iload_n X dMO_symbolFault_145 rfl 0 rfl ?_
                refine g_iconst X (v := (4 : Int32)) dMO_symbolFault_146 (by decide) ?_
                refine g_ishr X dMO_symbolFault_147 ?_
                refine g_if_ne X dMO_symbolFault_148 (fun c => ?_) (fun c => ?_)
                · have h := h.1 c
                  refine g_sub (L' := [(0, .ref (base + 41)), (1, .int v1), (2, .int v2), (3, .int x13)]) [1, 2, 3, 0] rfl ?_
                  exact r_177 v1 v2 x13 M12 h
                · have h := h.2 c
                  refine g_iload_n X dMO_symbolFault_151 rfl 2 rfl ?_
                  refine g_iconst X (v := (1 : Int32)) dMO_symbolFault_152 (by decide) ?_
                  refine g_icmp_le X dMO_symbolFault_153 (fun c => ?_) (fun c => ?_)
                  · have h := h.1 c
                    refine g_sub (L' := [(0, .ref (base + 41)), (1, .int v1), (2, .int v2), (3, .int x13)]) [1, 2, 3, 0] rfl ?_
                    exact r_177 v1 v2 x13 M12 h
                  · have h := h.2 c
                    refine g_aload_n X dMO_symbolFault_156 rfl 1 rfl ?_
                    refine g_iload_n X dMO_symbolFault_157 rfl 2 rfl ?_
                    refine g_iconst X (v := (1 : Int32)) dMO_symbolFault_158 (by decide) ?_
                    refine g_isub X dMO_symbolFault_159 ?_
                    refine g_callV X hK gTs_ok ly_41 rfl mw_MO_bindOf tw_1331 mi_MO_bindOf ms_MO_bindOf (As := [.int (v1 - (1 : Int32))]) rfl ⟨(Nat.le_of_ble_eq_true rfl), (Nat.le_of_ble_eq_true rfl), Nat.le_refl _, Nat.le_refl _⟩ (m_MO_bindOf h) (rest := []) rfl (Nat.le_of_ble_eq_true rfl) dMO_symbolFault_160 (gk_i (fun r32 M33 h => ?_))
                    refine g_if_eq X dMO_symbolFault_163 (fun c => ?_) (fun c => ?_)
                    · have h := h.1 c
                      refine g_sub (L' := [(0, .ref (base + 41)), (1, .int v1), (2, .int v2), (3, .int x13)]) [1, 2, 3, 0] rfl ?_
                      exact r_177 v1 v2 x13 M33 h
                    · have h := h.2 c
                      refine g_aload_n X dMO_symbolFault_166 rfl 1 rfl ?_
                      refine g_bipush X (v := (24 : Int32)) dMO_symbolFault_167 (by decide) ?_
                      refine g_iload_n X dMO_symbolFault_169 rfl 3 rfl ?_
                      refine g_bipush X (v := (12 : Int32)) dMO_symbolFault_170 (by decide) ?_
                      refine g_iadd X dMO_symbolFault_172 ?_
                      refine g_callV X hK gTs_ok ly_41 rfl mw_MO_fault tw_1243 mi_MO_fault ms_MO_fault (As := [.int (24 : Int32), .int (v2 + (12 : Int32))]) rfl ⟨(Nat.le_of_ble_eq_true rfl), (Nat.le_of_ble_eq_true rfl), Nat.le_refl _, Nat.le_refl _⟩ (m_MO_fault h) (rest := []) rfl (Nat.le_of_ble_eq_true rfl) dMO_symbolFault_173 (gk_i (fun r34 M35 h => ?_))
                      exact g_iret X hr hlk dMO_symbolFault_176 ⟨_, rfl, h⟩
              · have h := h.2 c
                refine g_aload_n X dMO_symbolFault_134 rfl 1 rfl ?_
                refine g_bipush X (v := (23 : Int32)) dMO_symbolFault_135 (by decide) ?_
                refine g_iload_n X dMO_symbolFault_137 rfl 3 rfl ?_
                refine g_bipush X (v := (13 : Int32)) dMO_symbolFault_138 (by decide) ?_
                refine g_iadd X dMO_symbolFault_140 ?_
                refine g_callV X hK gTs_ok ly_41 rfl mw_MO_fault tw_1243 mi_MO_fault ms_MO_fault (As := [.int (23 : Int32), .int (v2 + (13 : Int32))]) rfl ⟨(Nat.le_of_ble_eq_true rfl), (Nat.le_of_ble_eq_true rfl), Nat.le_refl _, Nat.le_refl _⟩ (m_MO_fault h) (rest := []) rfl (Nat.le_of_ble_eq_true rfl) dMO_symbolFault_141 (gk_i (fun r36 M37 h => ?_))
                exact g_iret X hr hlk dMO_symbolFault_144 ⟨_, rfl, h⟩
            · have h := h.2 c
              refine g_sub (L' := [(0, .ref (base + 41)), (2, .int v2)]) [1, 3] rfl ?_
              exact r_111 v2 M12 h
        · have h := h.2 c
          refine g_aload_n X dMO_symbolFault_78 rfl 0 rfl ?_
          refine g_bipush X (v := (22 : Int32)) dMO_symbolFault_79 (by decide) ?_
          refine g_iload_n X dMO_symbolFault_81 rfl 2 rfl ?_
          refine g_callV X hK gTs_ok ly_41 rfl mw_MO_fault tw_1243 mi_MO_fault ms_MO_fault (As := [.int (22 : Int32), .int v2]) rfl ⟨(Nat.le_of_ble_eq_true rfl), (Nat.le_of_ble_eq_true rfl), Nat.le_refl _, Nat.le_refl _⟩ (m_MO_fault h) (rest := []) rfl (Nat.le_of_ble_eq_true rfl) dMO_symbolFault_82 (gk_i (fun r38 M39 h => ?_))
          exact g_iret X hr hlk dMO_symbolFault_85 ⟨_, rfl, h⟩
    · have h := h.2 c
      refine g_iconst X (v := (0 : Int32)) dMO_symbolFault_49 (by decide) ?_
      exact g_iret X hr hlk dMO_symbolFault_50 ⟨_, rfl, h⟩
  have r_8 : ∀ (n : Nat) (v1 : Int32) (v2 : Int32) (v3 : Int32) (M : gMem), wl_MO_symbolFault_8 post n v1 v2 v3 M → GMx D ta base p l e 7 156 s m [.ref (base + 41), .int a0] below meth c (gPi post) 6 8 [(0, .ref (base + 41)), (1, .int v1), (2, .int v2), (3, .int v3)] [] M := by
    intro n
    induction n with
    | zero => exact fun _ _ _ M h => h.elim
    | succ n ih =>
      intro v1 v2 v3 M h
      refine g_iload_n X dMO_symbolFault_8 rfl 3 rfl ?_
      refine g_bipush X (v := (16 : Int32)) dMO_symbolFault_9 (by decide) ?_
      refine g_icmp_ge X dMO_symbolFault_11 (fun c => ?_) (fun c => ?_)
      · have h := h.1 c
        refine g_sub (L' := [(0, .ref (base + 41)), (1, .int v1), (2, .int v2)]) [0, 1, 2] rfl ?_
        exact r_45 v1 v2 M h
      · have h := h.2 c
        refine g_iload_n X dMO_symbolFault_14 rfl 1 rfl ?_
        refine g_if_ne X dMO_symbolFault_15 (fun c => ?_) (fun c => ?_)
        · have h := h.1 c
          refine g_sub (L' := [(0, .ref (base + 41)), (1, .int v1), (2, .int v2)]) [0, 1, 2] rfl ?_
          exact r_45 v1 v2 M h
        · have h := h.2 c
          refine g_aload_n X dMO_symbolFault_18 rfl 0 rfl ?_
          refine g_getr X hK.1 fw_MO_70 ly_41 rfl dMO_symbolFault_19 ?_
          refine g_iload_n X dMO_symbolFault_22 rfl 2 rfl ?_
          refine g_iload_n X dMO_symbolFault_23 rfl 3 rfl ?_
          refine g_iadd X dMO_symbolFault_24 ?_
          obtain ⟨hi, h⟩ := h
          refine g_iald X hK.1 ly_62 hi dMO_symbolFault_25 ?_
          refine g_if_eq X dMO_symbolFault_26 (fun c => ?_) (fun c => ?_)
          · have h := h.1 c
            obtain ⟨x40, ex40⟩ : ∃ z : Int32, z = v3 + (1 : Int32) := ⟨_, rfl⟩
            have h := h x40 ex40
            refine g_iinc X (L' := [(3, .int x40), (0, .ref (base + 41)), (1, .int v1), (2, .int v2)]) (k := 3) dMO_symbolFault_39 rfl (v := x40) (by rw [ex40]; rfl) (Nat.le_of_ble_eq_true rfl) rfl ?_
            refine g_goto X dMO_symbolFault_42 ?_
            refine g_sub (L' := [(0, .ref (base + 41)), (1, .int v1), (2, .int v2), (3, .int x40)]) [1, 2, 3, 0] rfl ?_
            exact ih v1 v2 x40 M h
          · have h := h.2 c
            refine g_aload_n X dMO_symbolFault_29 rfl 0 rfl ?_
            refine g_bipush X (v := (21 : Int32)) dMO_symbolFault_30 (by decide) ?_
            refine g_iload_n X dMO_symbolFault_32 rfl 2 rfl ?_
            refine g_iload_n X dMO_symbolFault_33 rfl 3 rfl ?_
            refine g_iadd X dMO_symbolFault_34 ?_
            refine g_callV X hK gTs_ok ly_41 rfl mw_MO_fault tw_1243 mi_MO_fault ms_MO_fault (As := [.int (21 : Int32), .int (v2 + v3)]) rfl ⟨(Nat.le_of_ble_eq_true rfl), (Nat.le_of_ble_eq_true rfl), Nat.le_refl _, Nat.le_refl _⟩ (m_MO_fault h) (rest := []) rfl (Nat.le_of_ble_eq_true rfl) dMO_symbolFault_35 (gk_i (fun r41 M42 h => ?_))
            exact g_iret X hr hlk dMO_symbolFault_38 ⟨_, rfl, h⟩
  refine g_args (L' := [(0, .ref (base + 41)), (1, .int a0)]) rfl ?_
  unfold wp_MO_symbolFault at h
  refine g_aload_n X dMO_symbolFault_0 rfl 0 rfl ?_
  refine g_iload_n X dMO_symbolFault_1 rfl 1 rfl ?_
  refine g_callV X hK gTs_ok ly_41 rfl mw_MO_symbolPlace tw_1315 mi_MO_symbolPlace ms_MO_symbolPlace (As := [.int a0]) rfl ⟨(Nat.le_of_ble_eq_true rfl), (Nat.le_of_ble_eq_true rfl), Nat.le_refl _, Nat.le_refl _⟩ (m_MO_symbolPlace h) (rest := []) rfl (Nat.le_of_ble_eq_true rfl) dMO_symbolFault_2 (gk_i (fun r1 M2 h => ?_))
  refine g_istore_n X (L' := [(2, .int r1), (0, .ref (base + 41)), (1, .int a0)]) dMO_symbolFault_5 rfl (Nat.le_of_ble_eq_true rfl) rfl ?_
  refine g_iconst X (v := (0 : Int32)) dMO_symbolFault_6 (by decide) ?_
  refine g_istore_n X (L' := [(3, .int (0 : Int32)), (2, .int r1), (0, .ref (base + 41)), (1, .int a0)]) dMO_symbolFault_7 rfl (Nat.le_of_ble_eq_true rfl) rfl ?_
  refine g_sub (L' := [(0, .ref (base + 41)), (1, .int a0), (2, .int r1), (3, .int (0 : Int32))]) [2, 3, 1, 0] rfl ?_
  obtain ⟨n9, h⟩ := h
  exact r_8 n9 a0 r1 (0 : Int32) M2 h
set_option maxRecDepth 100000 in
set_option maxHeartbeats 4000000 in
theorem m_MO_ruleFault {l : Launch} {D : va_G} {ta : Nat → ClassId} {base : Nat} {sa : Nat → Nat} {post : Int32 → gMem → Prop} {a0 : Int32} {M : gMem} (h : wp_MO_ruleFault post a0 M) : GC gLay gCl D ta base gNw sa gTabs gTs l y_MO_ruleFault b_MO_ruleFault 6 (some .int) 3 64 [.ref (base + 41), .int a0] M (gPi post) := by
  refine GC.of (own := "ObjectFileModel") pn_MO rfl (Nat.le_of_ble_eq_true rfl) ?_
  intro p e s m below meth c X hK hr hlk
  have r_166 : ∀ (v1 : Int32) (M : gMem), wj_MO_ruleFault_166 post v1 M → GMx D ta base p l e 3 64 s m [.ref (base + 41), .int a0] below meth c (gPi post) 6 166 [(0, .ref (base + 41)), (1, .int v1)] [] M := by
    intro v1 M h
    unfold wj_MO_ruleFault_166 at h
    refine g_aload_n X dMO_ruleFault_166 rfl 0 rfl ?_
    refine g_bipush X (v := (17 : Int32)) dMO_ruleFault_167 (by decide) ?_
    refine g_aload_n X dMO_ruleFault_169 rfl 0 rfl ?_
    refine g_iload_n X dMO_ruleFault_170 rfl 1 rfl ?_
    refine g_bipush X (v := (6 : Int32)) dMO_ruleFault_171 (by decide) ?_
    refine g_callV X hK gTs_ok ly_41 rfl mw_MO_spotOf tw_1267 mi_MO_spotOf ms_MO_spotOf (As := [.int v1, .int (6 : Int32)]) rfl ⟨(Nat.le_of_ble_eq_true rfl), (Nat.le_of_ble_eq_true rfl), Nat.le_refl _, Nat.le_refl _⟩ (m_MO_spotOf h) (rest := [.int (17 : Int32), .ref (base + 41)]) rfl (Nat.le_of_ble_eq_true rfl) dMO_ruleFault_173 (gk_i (fun r14 M15 h => ?_))
    refine g_callV X hK gTs_ok ly_41 rfl mw_MO_fault tw_1243 mi_MO_fault ms_MO_fault (As := [.int (17 : Int32), .int r14]) rfl ⟨(Nat.le_of_ble_eq_true rfl), (Nat.le_of_ble_eq_true rfl), Nat.le_refl _, Nat.le_refl _⟩ (m_MO_fault h) (rest := []) rfl (Nat.le_of_ble_eq_true rfl) dMO_ruleFault_176 (gk_i (fun r16 M17 h => ?_))
    exact g_iret X hr hlk dMO_ruleFault_179 ⟨_, rfl, h⟩
  have r_241 : ∀ (v1 : Int32) (v2 : Int32) (M : gMem), wj_MO_ruleFault_241 post v1 v2 M → GMx D ta base p l e 3 64 s m [.ref (base + 41), .int a0] below meth c (gPi post) 6 241 [(0, .ref (base + 41)), (1, .int v1), (2, .int v2)] [] M := by
    intro v1 v2 M h
    unfold wj_MO_ruleFault_241 at h
    refine g_aload_n X dMO_ruleFault_241 rfl 0 rfl ?_
    refine g_iload_n X dMO_ruleFault_242 rfl 1 rfl ?_
    refine g_bipush X (v := (9 : Int32)) dMO_ruleFault_243 (by decide) ?_
    refine g_callV X hK gTs_ok ly_41 rfl mw_MO_told tw_1263 mi_MO_told ms_MO_told (As := [.int v1, .int (9 : Int32)]) rfl ⟨(Nat.le_of_ble_eq_true rfl), (Nat.le_of_ble_eq_true rfl), Nat.le_refl _, Nat.le_refl _⟩ (m_MO_told h) (rest := []) rfl (Nat.le_of_ble_eq_true rfl) dMO_ruleFault_245 (gk_l (fun r18 M19 h => ?_))
    refine g_iload_n X dMO_ruleFault_248 rfl 2 rfl ?_
    refine g_callS X hK gTs_ok mw_MO_eachOf tw_1208 mt_MO_eachOf (As := [.int v2]) rfl ⟨(Nat.le_of_ble_eq_true rfl), (Nat.le_of_ble_eq_true rfl), Nat.le_refl _, Nat.le_refl _⟩ (m_MO_eachOf h) (rest := [.long r18]) rfl (Nat.le_of_ble_eq_true rfl) dMO_ruleFault_249 (gk_i (fun r20 M21 h => ?_))
    refine g_i2l X dMO_ruleFault_252 rfl ?_
    refine g_lif_eq X dMO_ruleFault_253 dMO_ruleFault_254 (fun c => ?_) (fun c => ?_)
    · have h := h.1 c
      refine g_iconst X (v := (0 : Int32)) dMO_ruleFault_273 (by decide) ?_
      exact g_iret X hr hlk dMO_ruleFault_274 ⟨_, rfl, h⟩
    · have h := h.2 c
      refine g_aload_n X dMO_ruleFault_257 rfl 0 rfl ?_
      refine g_bipush X (v := (17 : Int32)) dMO_ruleFault_258 (by decide) ?_
      refine g_aload_n X dMO_ruleFault_260 rfl 0 rfl ?_
      refine g_iload_n X dMO_ruleFault_261 rfl 1 rfl ?_
      refine g_bipush X (v := (9 : Int32)) dMO_ruleFault_262 (by decide) ?_
      refine g_callV X hK gTs_ok ly_41 rfl mw_MO_spotOf tw_1267 mi_MO_spotOf ms_MO_spotOf (As := [.int v1, .int (9 : Int32)]) rfl ⟨(Nat.le_of_ble_eq_true rfl), (Nat.le_of_ble_eq_true rfl), Nat.le_refl _, Nat.le_refl _⟩ (m_MO_spotOf h) (rest := [.int (17 : Int32), .ref (base + 41)]) rfl (Nat.le_of_ble_eq_true rfl) dMO_ruleFault_264 (gk_i (fun r22 M23 h => ?_))
      refine g_callV X hK gTs_ok ly_41 rfl mw_MO_fault tw_1243 mi_MO_fault ms_MO_fault (As := [.int (17 : Int32), .int r22]) rfl ⟨(Nat.le_of_ble_eq_true rfl), (Nat.le_of_ble_eq_true rfl), Nat.le_refl _, Nat.le_refl _⟩ (m_MO_fault h) (rest := []) rfl (Nat.le_of_ble_eq_true rfl) dMO_ruleFault_267 (gk_i (fun r24 M25 h => ?_))
      refine g_goto X dMO_ruleFault_270 ?_
      exact g_iret X hr hlk dMO_ruleFault_274 ⟨_, rfl, h⟩
  have r_227 : ∀ (v1 : Int32) (M : gMem), wj_MO_ruleFault_227 post v1 M → GMx D ta base p l e 3 64 s m [.ref (base + 41), .int a0] below meth c (gPi post) 6 227 [(0, .ref (base + 41)), (1, .int v1)] [] M := by
    intro v1 M h
    unfold wj_MO_ruleFault_227 at h
    refine g_aload_n X dMO_ruleFault_227 rfl 0 rfl ?_
    refine g_bipush X (v := (17 : Int32)) dMO_ruleFault_228 (by decide) ?_
    refine g_aload_n X dMO_ruleFault_230 rfl 0 rfl ?_
    refine g_iload_n X dMO_ruleFault_231 rfl 1 rfl ?_
    refine g_bipush X (v := (7 : Int32)) dMO_ruleFault_232 (by decide) ?_
    refine g_callV X hK gTs_ok ly_41 rfl mw_MO_spotOf tw_1267 mi_MO_spotOf ms_MO_spotOf (As := [.int v1, .int (7 : Int32)]) rfl ⟨(Nat.le_of_ble_eq_true rfl), (Nat.le_of_ble_eq_true rfl), Nat.le_refl _, Nat.le_refl _⟩ (m_MO_spotOf h) (rest := [.int (17 : Int32), .ref (base + 41)]) rfl (Nat.le_of_ble_eq_true rfl) dMO_ruleFault_234 (gk_i (fun r28 M29 h => ?_))
    refine g_callV X hK gTs_ok ly_41 rfl mw_MO_fault tw_1243 mi_MO_fault ms_MO_fault (As := [.int (17 : Int32), .int r28]) rfl ⟨(Nat.le_of_ble_eq_true rfl), (Nat.le_of_ble_eq_true rfl), Nat.le_refl _, Nat.le_refl _⟩ (m_MO_fault h) (rest := []) rfl (Nat.le_of_ble_eq_true rfl) dMO_ruleFault_237 (gk_i (fun r30 M31 h => ?_))
    exact g_iret X hr hlk dMO_ruleFault_240 ⟨_, rfl, h⟩
  have r_196 : ∀ (v1 : Int32) (v2 : Int32) (v3 : Int32) (s0 : Int32) (M : gMem), wj_MO_ruleFault_196 post v1 v2 v3 s0 M → GMx D ta base p l e 3 64 s m [.ref (base + 41), .int a0] below meth c (gPi post) 6 196 [(0, .ref (base + 41)), (1, .int v1), (2, .int v2), (3, .int v3)] [.int s0] M := by
    intro v1 v2 v3 s0 M h
    unfold wj_MO_ruleFault_196 at h
    refine g_istore X (L' := [(5, .int s0), (0, .ref (base + 41)), (1, .int v1), (2, .int v2), (3, .int v3)]) dMO_ruleFault_196 (Nat.le_of_ble_eq_true rfl) rfl ?_
    refine g_iload_n X dMO_ruleFault_198 rfl 3 rfl ?_
    refine g_bipush X (v := (8 : Int32)) dMO_ruleFault_199 (by decide) ?_
    refine g_icmp_eq X dMO_ruleFault_201 (fun c => ?_) (fun c => ?_)
    · have h := h.1 c
      refine g_sub (L' := [(0, .ref (base + 41)), (1, .int v1), (2, .int v2)]) [1, 2, 3] rfl ?_
      exact r_241 v1 v2 M h
    · have h := h.2 c
      refine g_aload_n X dMO_ruleFault_204 rfl 1 rfl ?_
      refine g_iload_n X dMO_ruleFault_205 rfl 2 rfl ?_
      refine g_bipush X (v := (7 : Int32)) dMO_ruleFault_206 (by decide) ?_
      refine g_callV X hK gTs_ok ly_41 rfl mw_MO_told tw_1263 mi_MO_told ms_MO_told (As := [.int v1, .int (7 : Int32)]) rfl ⟨(Nat.le_of_ble_eq_true rfl), (Nat.le_of_ble_eq_true rfl), Nat.le_refl _, Nat.le_refl _⟩ (m_MO_told h) (rest := []) rfl (Nat.le_of_ble_eq_true rfl) dMO_ruleFault_208 (gk_l (fun r26 M27 h => ?_))
      refine g_iload X dMO_ruleFault_211 0 rfl ?_
      refine g_i2l X dMO_ruleFault_213 rfl ?_
      refine g_lif_ne X dMO_ruleFault_214 dMO_ruleFault_215 (fun c => ?_) (fun c => ?_)
      · have h := h.1 c
        refine g_sub (L' := [(0, .ref (base + 41)), (1, .int v1)]) [1, 2] rfl ?_
        exact r_227 v1 M27 h
      · have h := h.2 c
        refine g_iload_n X dMO_ruleFault_218 rfl 4 rfl ?_
        refine g_if_eq X dMO_ruleFault_219 (fun c => ?_) (fun c => ?_)
        · have h := h.1 c
          refine g_sub (L' := [(0, .ref (base + 41)), (1, .int v1), (2, .int v2)]) [1, 2, 3] rfl ?_
          exact r_241 v1 v2 M27 h
        · have h := h.2 c
          refine g_iload X dMO_ruleFault_222 0 rfl ?_
          refine g_if_ne X dMO_ruleFault_224 (fun c => ?_) (fun c => ?_)
          · have h := h.1 c
            refine g_sub (L' := [(0, .ref (base + 41)), (1, .int v1), (2, .int v2)]) [1, 2, 3] rfl ?_
            exact r_241 v1 v2 M27 h
          · have h := h.2 c
            refine g_sub (L' := [(0, .ref (base + 41)), (1, .int v1)]) [1, 2] rfl ?_
            exact r_227 v1 M27 h
  have r_180 : ∀ (v1 : Int32) (v2 : Int32) (v3 : Int32) (M : gMem), wj_MO_ruleFault_180 post v1 v2 v3 M → GMx D ta base p l e 3 64 s m [.ref (base + 41), .int a0] below meth c (gPi post) 6 180 [(0, .ref (base + 41)), (1, .int v1), (2, .int v2), (3, .int v3)] [] M := by
    intro v1 v2 v3 M h
    unfold wj_MO_ruleFault_180 at h
    refine g_iload_n X dMO_ruleFault_180 rfl 3 rfl ?_
    refine g_if_eq X dMO_ruleFault_181 (fun c => ?_) (fun c => ?_)
    · have h := h.1 c
      refine g_iconst X (v := (0 : Int32)) dMO_ruleFault_195 (by decide) ?_
      exact r_196 v1 v2 v3 (0 : Int32) M h
    · have h := h.2 c
      refine g_aload_n X dMO_ruleFault_184 rfl 0 rfl ?_
      refine g_getr X hK.1 fw_MO_107 ly_41 rfl dMO_ruleFault_185 ?_
      refine g_iload_n X dMO_ruleFault_188 rfl 2 rfl ?_
      refine g_iconst X (v := (5 : Int32)) dMO_ruleFault_189 (by decide) ?_
      refine g_isub X dMO_ruleFault_190 ?_
      obtain ⟨hi, h⟩ := h
      refine g_iald X hK.1 ly_73 hi dMO_ruleFault_191 ?_
      refine g_goto X dMO_ruleFault_192 ?_
      exact r_196 v1 v2 v3 (M 73 (v2 - (5 : Int32)).toNatClampNeg) M h
  have r_161 : ∀ (v1 : Int32) (v2 : Int32) (v3 : Int32) (v4 : Int32) (M : gMem), wj_MO_ruleFault_161 post v1 v2 v3 v4 M → GMx D ta base p l e 3 64 s m [.ref (base + 41), .int a0] below meth c (gPi post) 6 161 [(0, .ref (base + 41)), (1, .int v1), (2, .int v2), (3, .int v3), (4, .int v4)] [] M := by
    intro v1 v2 v3 v4 M h
    unfold wj_MO_ruleFault_161 at h
    refine g_iload X dMO_ruleFault_161 4 rfl ?_
    refine g_if_ne X dMO_ruleFault_163 (fun c => ?_) (fun c => ?_)
    · have h := h.1 c
      refine g_sub (L' := [(0, .ref (base + 41)), (1, .int v1), (2, .int v2), (3, .int v3)]) [0, 1, 2, 3] rfl ?_
      exact r_180 v1 v2 v3 M h
    · have h := h.2 c
      refine g_sub (L' := [(0, .ref (base + 41)), (1, .int v1)]) [0, 1] rfl ?_
      exact r_166 v1 M h
  have r_135 : ∀ (v1 : Int32) (v2 : Int32) (v3 : Int32) (s0 : Int32) (M : gMem), wj_MO_ruleFault_135 post v1 v2 v3 s0 M → GMx D ta base p l e 3 64 s m [.ref (base + 41), .int a0] below meth c (gPi post) 6 135 [(0, .ref (base + 41)), (1, .int v1), (2, .int v2), (3, .int v3)] [.int s0] M := by
    intro v1 v2 v3 s0 M h
    unfold wj_MO_ruleFault_135 at h
    refine g_istore X (L' := [(4, .int s0), (0, .ref (base + 41)), (1, .int v1), (2, .int v2), (3, .int v3)]) dMO_ruleFault_135 (Nat.le_of_ble_eq_true rfl) rfl ?_
    refine g_aload_n X dMO_ruleFault_137 rfl 1 rfl ?_
    refine g_iload_n X dMO_ruleFault_138 rfl 2 rfl ?_
    refine g_bipush X (v := (6 : Int32)) dMO_ruleFault_139 (by decide) ?_
    refine g_callV X hK gTs_ok ly_41 rfl mw_MO_told tw_1263 mi_MO_told ms_MO_told (As := [.int v1, .int (6 : Int32)]) rfl ⟨(Nat.le_of_ble_eq_true rfl), (Nat.le_of_ble_eq_true rfl), Nat.le_refl _, Nat.le_refl _⟩ (m_MO_told h) (rest := []) rfl (Nat.le_of_ble_eq_true rfl) dMO_ruleFault_141 (gk_l (fun r12 M13 h => ?_))
    refine g_iload X dMO_ruleFault_144 0 rfl ?_
    refine g_i2l X dMO_ruleFault_146 rfl ?_
    refine g_lif_ne X dMO_ruleFault_147 dMO_ruleFault_148 (fun c => ?_) (fun c => ?_)
    · have h := h.1 c
      refine g_sub (L' := [(0, .ref (base + 41)), (1, .int v1)]) [1, 2] rfl ?_
      exact r_166 v1 M13 h
    · have h := h.2 c
      refine g_iload_n X dMO_ruleFault_151 rfl 4 rfl ?_
      refine g_if_ne X dMO_ruleFault_152 (fun c => ?_) (fun c => ?_)
      · have h := h.1 c
        refine g_sub (L' := [(0, .ref (base + 41)), (1, .int v1), (2, .int v2), (3, .int v3), (4, .int s0)]) [1, 2, 3, 4, 0] rfl ?_
        exact r_161 v1 v2 v3 s0 M13 h
      · have h := h.2 c
        refine g_iload_n X dMO_ruleFault_155 rfl 3 rfl ?_
        refine g_bipush X (v := (8 : Int32)) dMO_ruleFault_156 (by decide) ?_
        refine g_icmp_ne X dMO_ruleFault_158 (fun c => ?_) (fun c => ?_)
        · have h := h.1 c
          refine g_sub (L' := [(0, .ref (base + 41)), (1, .int v1), (2, .int v2), (3, .int v3)]) [1, 2, 3, 4] rfl ?_
          exact r_180 v1 v2 v3 M13 h
        · have h := h.2 c
          refine g_sub (L' := [(0, .ref (base + 41)), (1, .int v1), (2, .int v2), (3, .int v3), (4, .int s0)]) [1, 2, 3, 4, 0] rfl ?_
          exact r_161 v1 v2 v3 s0 M13 h
  have r_23 : ∀ (v1 : Int32) (v2 : Int32) (s0 : Int32) (M : gMem), wj_MO_ruleFault_23 post v1 v2 s0 M → GMx D ta base p l e 3 64 s m [.ref (base + 41), .int a0] below meth c (gPi post) 6 23 [(0, .ref (base + 41)), (1, .int v1), (2, .int v2)] [.int s0] M := by
    intro v1 v2 s0 M h
    unfold wj_MO_ruleFault_23 at h
    refine g_istore_n X (L' := [(3, .int s0), (0, .ref (base + 41)), (1, .int v1), (2, .int v2)]) dMO_ruleFault_23 rfl (Nat.le_of_ble_eq_true rfl) rfl ?_
    refine g_aload_n X dMO_ruleFault_24 rfl 1 rfl ?_
    refine g_iload_n X dMO_ruleFault_25 rfl 2 rfl ?_
    refine g_iconst X (v := (1 : Int32)) dMO_ruleFault_26 (by decide) ?_
    refine g_callV X hK gTs_ok ly_41 rfl mw_MO_told tw_1263 mi_MO_told ms_MO_told (As := [.int v1, .int (1 : Int32)]) rfl ⟨(Nat.le_of_ble_eq_true rfl), (Nat.le_of_ble_eq_true rfl), Nat.le_refl _, Nat.le_refl _⟩ (m_MO_told h) (rest := []) rfl (Nat.le_of_ble_eq_true rfl) dMO_ruleFault_27 (gk_l (fun r2 M3 h => ?_))
    refine g_iload_n X dMO_ruleFault_30 rfl 3 rfl ?_
    refine g_callS X hK gTs_ok mw_MO_sortOf tw_1202 mt_MO_sortOf (As := [.int v2]) rfl ⟨(Nat.le_of_ble_eq_true rfl), (Nat.le_of_ble_eq_true rfl), Nat.le_refl _, Nat.le_refl _⟩ (m_MO_sortOf h) (rest := [.long r2]) rfl (Nat.le_of_ble_eq_true rfl) dMO_ruleFault_31 (gk_i (fun r4 M5 h => ?_))
    refine g_i2l X dMO_ruleFault_34 rfl ?_
    refine g_lif_eq X dMO_ruleFault_35 dMO_ruleFault_36 (fun c => ?_) (fun c => ?_)
    · have h := h.1 c
      refine g_aload_n X dMO_ruleFault_52 rfl 1 rfl ?_
      refine g_iload_n X dMO_ruleFault_53 rfl 2 rfl ?_
      refine g_iconst X (v := (2 : Int32)) dMO_ruleFault_54 (by decide) ?_
      refine g_callV X hK gTs_ok ly_41 rfl mw_MO_told tw_1263 mi_MO_told ms_MO_told (As := [.int v1, .int (2 : Int32)]) rfl ⟨(Nat.le_of_ble_eq_true rfl), (Nat.le_of_ble_eq_true rfl), Nat.le_refl _, Nat.le_refl _⟩ (m_MO_told h) (rest := []) rfl (Nat.le_of_ble_eq_true rfl) dMO_ruleFault_55 (gk_l (fun r6 M7 h => ?_))
      refine g_iload_n X dMO_ruleFault_58 rfl 3 rfl ?_
      refine g_callS X hK gTs_ok mw_MO_flagsOf tw_1205 mt_MO_flagsOf (As := [.int v2]) rfl ⟨(Nat.le_of_ble_eq_true rfl), (Nat.le_of_ble_eq_true rfl), Nat.le_refl _, Nat.le_refl _⟩ (m_MO_flagsOf h) (rest := [.long r6]) rfl (Nat.le_of_ble_eq_true rfl) dMO_ruleFault_59 (gk_i (fun r8 M9 h => ?_))
      refine g_i2l X dMO_ruleFault_62 rfl ?_
      refine g_lif_eq X dMO_ruleFault_63 dMO_ruleFault_64 (fun c => ?_) (fun c => ?_)
      · have h := h.1 c
        refine g_aload_n X dMO_ruleFault_80 rfl 1 rfl ?_
        refine g_iload_n X dMO_ruleFault_81 rfl 2 rfl ?_
        refine g_iconst X (v := (3 : Int32)) dMO_ruleFault_82 (by decide) ?_
        refine g_callV X hK gTs_ok ly_41 rfl mw_MO_told tw_1263 mi_MO_told ms_MO_told (As := [.int v1, .int (3 : Int32)]) rfl ⟨(Nat.le_of_ble_eq_true rfl), (Nat.le_of_ble_eq_true rfl), Nat.le_refl _, Nat.le_refl _⟩ (m_MO_told h) (rest := []) rfl (Nat.le_of_ble_eq_true rfl) dMO_ruleFault_83 (gk_l (fun r10 M11 h => ?_))
        refine g_lconst X (v := (0 : Int64)) dMO_ruleFault_86 (by decide) ?_
        refine g_lif_eq X dMO_ruleFault_87 dMO_ruleFault_88 (fun c => ?_) (fun c => ?_)
        · have h := h.1 c
          refine g_iload_n X dMO_ruleFault_104 rfl 0 rfl ?_
          refine g_if_eq X dMO_ruleFault_105 (fun c => ?_) (fun c => ?_)
          · have h := h.1 c
            refine g_iload_n X dMO_ruleFault_118 rfl 3 rfl ?_
            refine g_bipush X (v := (8 : Int32)) dMO_ruleFault_119 (by decide) ?_
            refine g_icmp_ne X dMO_ruleFault_121 (fun c => ?_) (fun c => ?_)
            · have h := h.1 c
              refine g_iconst X (v := (0 : Int32)) dMO_ruleFault_134 (by decide) ?_
              refine g_sub (L' := [(0, .ref (base + 41)), (1, .int v1), (2, .int v2), (3, .int s0)]) [1, 2, 3, 0] rfl ?_
              exact r_135 v1 v2 s0 (0 : Int32) M11 h
            · have h := h.2 c
              refine g_aload_n X dMO_ruleFault_124 rfl 1 rfl ?_
              refine g_getr X hK.1 fw_MO_107 ly_41 rfl dMO_ruleFault_125 ?_
              refine g_bipush X (v := (9 : Int32)) dMO_ruleFault_128 (by decide) ?_
              obtain ⟨hi, h⟩ := h
              refine g_iald X hK.1 ly_73 hi dMO_ruleFault_130 ?_
              refine g_goto X dMO_ruleFault_131 ?_
              refine g_sub (L' := [(0, .ref (base + 41)), (1, .int v1), (2, .int v2), (3, .int s0)]) [1, 2, 3, 0] rfl ?_
              exact r_135 v1 v2 s0 (M11 73 ((9 : Int32)).toNatClampNeg) M11 h
          · have h := h.2 c
            refine g_aload_n X dMO_ruleFault_108 rfl 1 rfl ?_
            refine g_getr X hK.1 fw_MO_107 ly_41 rfl dMO_ruleFault_109 ?_
            refine g_bipush X (v := (8 : Int32)) dMO_ruleFault_112 (by decide) ?_
            obtain ⟨hi, h⟩ := h
            refine g_iald X hK.1 ly_73 hi dMO_ruleFault_114 ?_
            refine g_goto X dMO_ruleFault_115 ?_
            refine g_sub (L' := [(0, .ref (base + 41)), (1, .int v1), (2, .int v2), (3, .int s0)]) [1, 2, 3, 0] rfl ?_
            exact r_135 v1 v2 s0 (M11 73 ((8 : Int32)).toNatClampNeg) M11 h
        · have h := h.2 c
          refine g_aload_n X dMO_ruleFault_91 rfl 1 rfl ?_
          refine g_bipush X (v := (17 : Int32)) dMO_ruleFault_92 (by decide) ?_
          refine g_aload_n X dMO_ruleFault_94 rfl 1 rfl ?_
          refine g_iload_n X dMO_ruleFault_95 rfl 2 rfl ?_
          refine g_iconst X (v := (3 : Int32)) dMO_ruleFault_96 (by decide) ?_
          refine g_callV X hK gTs_ok ly_41 rfl mw_MO_spotOf tw_1267 mi_MO_spotOf ms_MO_spotOf (As := [.int v1, .int (3 : Int32)]) rfl ⟨(Nat.le_of_ble_eq_true rfl), (Nat.le_of_ble_eq_true rfl), Nat.le_refl _, Nat.le_refl _⟩ (m_MO_spotOf h) (rest := [.int (17 : Int32), .ref (base + 41)]) rfl (Nat.le_of_ble_eq_true rfl) dMO_ruleFault_97 (gk_i (fun r32 M33 h => ?_))
          refine g_callV X hK gTs_ok ly_41 rfl mw_MO_fault tw_1243 mi_MO_fault ms_MO_fault (As := [.int (17 : Int32), .int r32]) rfl ⟨(Nat.le_of_ble_eq_true rfl), (Nat.le_of_ble_eq_true rfl), Nat.le_refl _, Nat.le_refl _⟩ (m_MO_fault h) (rest := []) rfl (Nat.le_of_ble_eq_true rfl) dMO_ruleFault_100 (gk_i (fun r34 M35 h => ?_))
          exact g_iret X hr hlk dMO_ruleFault_103 ⟨_, rfl, h⟩
      · have h := h.2 c
        refine g_aload_n X dMO_ruleFault_67 rfl 1 rfl ?_
        refine g_bipush X (v := (17 : Int32)) dMO_ruleFault_68 (by decide) ?_
        refine g_aload_n X dMO_ruleFault_70 rfl 1 rfl ?_
        refine g_iload_n X dMO_ruleFault_71 rfl 2 rfl ?_
        refine g_iconst X (v := (2 : Int32)) dMO_ruleFault_72 (by decide) ?_
        refine g_callV X hK gTs_ok ly_41 rfl mw_MO_spotOf tw_1267 mi_MO_spotOf ms_MO_spotOf (As := [.int v1, .int (2 : Int32)]) rfl ⟨(Nat.le_of_ble_eq_true rfl), (Nat.le_of_ble_eq_true rfl), Nat.le_refl _, Nat.le_refl _⟩ (m_MO_spotOf h) (rest := [.int (17 : Int32), .ref (base + 41)]) rfl (Nat.le_of_ble_eq_true rfl) dMO_ruleFault_73 (gk_i (fun r36 M37 h => ?_))
        refine g_callV X hK gTs_ok ly_41 rfl mw_MO_fault tw_1243 mi_MO_fault ms_MO_fault (As := [.int (17 : Int32), .int r36]) rfl ⟨(Nat.le_of_ble_eq_true rfl), (Nat.le_of_ble_eq_true rfl), Nat.le_refl _, Nat.le_refl _⟩ (m_MO_fault h) (rest := []) rfl (Nat.le_of_ble_eq_true rfl) dMO_ruleFault_76 (gk_i (fun r38 M39 h => ?_))
        exact g_iret X hr hlk dMO_ruleFault_79 ⟨_, rfl, h⟩
    · have h := h.2 c
      refine g_aload_n X dMO_ruleFault_39 rfl 1 rfl ?_
      refine g_bipush X (v := (17 : Int32)) dMO_ruleFault_40 (by decide) ?_
      refine g_aload_n X dMO_ruleFault_42 rfl 1 rfl ?_
      refine g_iload_n X dMO_ruleFault_43 rfl 2 rfl ?_
      refine g_iconst X (v := (1 : Int32)) dMO_ruleFault_44 (by decide) ?_
      refine g_callV X hK gTs_ok ly_41 rfl mw_MO_spotOf tw_1267 mi_MO_spotOf ms_MO_spotOf (As := [.int v1, .int (1 : Int32)]) rfl ⟨(Nat.le_of_ble_eq_true rfl), (Nat.le_of_ble_eq_true rfl), Nat.le_refl _, Nat.le_refl _⟩ (m_MO_spotOf h) (rest := [.int (17 : Int32), .ref (base + 41)]) rfl (Nat.le_of_ble_eq_true rfl) dMO_ruleFault_45 (gk_i (fun r40 M41 h => ?_))
      refine g_callV X hK gTs_ok ly_41 rfl mw_MO_fault tw_1243 mi_MO_fault ms_MO_fault (As := [.int (17 : Int32), .int r40]) rfl ⟨(Nat.le_of_ble_eq_true rfl), (Nat.le_of_ble_eq_true rfl), Nat.le_refl _, Nat.le_refl _⟩ (m_MO_fault h) (rest := []) rfl (Nat.le_of_ble_eq_true rfl) dMO_ruleFault_48 (gk_i (fun r42 M43 h => ?_))
      exact g_iret X hr hlk dMO_ruleFault_51 ⟨_, rfl, h⟩
  have r_22 : ∀ (v1 : Int32) (v2 : Int32) (M : gMem), wj_MO_ruleFault_22 post v1 v2 M → GMx D ta base p l e 3 64 s m [.ref (base + 41), .int a0] below meth c (gPi post) 6 22 [(0, .ref (base + 41)), (1, .int v1), (2, .int v2)] [] M := by
    intro v1 v2 M h
    unfold wj_MO_ruleFault_22 at h
    refine g_iconst X (v := (0 : Int32)) dMO_ruleFault_22 (by decide) ?_
    exact r_23 v1 v2 (0 : Int32) M h
  refine g_args (L' := [(0, .ref (base + 41)), (1, .int a0)]) rfl ?_
  unfold wp_MO_ruleFault at h
  refine g_aload_n X dMO_ruleFault_0 rfl 0 rfl ?_
  refine g_getr X hK.1 fw_MO_110 ly_41 rfl dMO_ruleFault_1 ?_
  refine g_iload_n X dMO_ruleFault_4 rfl 1 rfl ?_
  obtain ⟨hi, h⟩ := h
  refine g_iald X hK.1 ly_74 hi dMO_ruleFault_5 ?_
  refine g_topi (fun x1 ex1 => ?_)
  have h := h x1 ex1
  refine g_istore_n X (L' := [(2, .int x1), (0, .ref (base + 41)), (1, .int a0)]) dMO_ruleFault_6 rfl (Nat.le_of_ble_eq_true rfl) rfl ?_
  refine g_iload_n X dMO_ruleFault_7 rfl 0 rfl ?_
  refine g_iconst X (v := (5 : Int32)) dMO_ruleFault_8 (by decide) ?_
  refine g_icmp_lt X dMO_ruleFault_9 (fun c => ?_) (fun c => ?_)
  · have h := h.1 c
    refine g_sub (L' := [(0, .ref (base + 41)), (1, .int a0), (2, .int x1)]) [1, 2, 0] rfl ?_
    exact r_22 a0 x1 M h
  · have h := h.2 c
    refine g_iload_n X dMO_ruleFault_12 rfl 0 rfl ?_
    refine g_bipush X (v := (8 : Int32)) dMO_ruleFault_13 (by decide) ?_
    refine g_icmp_ge X dMO_ruleFault_15 (fun c => ?_) (fun c => ?_)
    · have h := h.1 c
      refine g_sub (L' := [(0, .ref (base + 41)), (1, .int a0), (2, .int x1)]) [1, 2, 0] rfl ?_
      exact r_22 a0 x1 M h
    · have h := h.2 c
      refine g_iconst X (v := (1 : Int32)) dMO_ruleFault_18 (by decide) ?_
      refine g_goto X dMO_ruleFault_19 ?_
      refine g_sub (L' := [(0, .ref (base + 41)), (1, .int a0), (2, .int x1)]) [1, 2, 0] rfl ?_
      exact r_23 a0 x1 (1 : Int32) M h
set_option maxRecDepth 100000 in
set_option maxHeartbeats 4000000 in
theorem m_MO_meets {l : Launch} {D : va_G} {ta : Nat → ClassId} {base : Nat} {sa : Nat → Nat} {post : Bool → gMem → Prop} {a0 : Int64} {a1 : Int64} {a2 : Int64} {a3 : Int64} {M : gMem} (h : wp_MO_meets post a0 a1 a2 a3 M) : GC gLay gCl D ta base gNw sa gTabs gTs l y_MO_meets b_MO_meets 8 (some .boolean) 0 0 [.long a0, .long a1, .long a2, .long a3] M (gPz post) := by
  refine GC.of (own := "ObjectFileModel") pn_MO rfl (Nat.le_of_ble_eq_true rfl) ?_
  intro p e s m below meth c X hK hr hlk
  refine g_args (L' := [(0, .long a0), (2, .long a1), (4, .long a2), (6, .long a3)]) rfl ?_
  unfold wp_MO_meets at h
  refine g_lload_n X dMO_meets_0 rfl 1 rfl ?_
  refine g_lconst X (v := (0 : Int64)) dMO_meets_1 (by decide) ?_
  refine g_lif_le X dMO_meets_2 dMO_meets_3 (fun c => ?_) (fun c => ?_)
  · have h := h.1 c
    refine g_iconst X (v := (0 : Int32)) dMO_meets_36 (by decide) ?_
    exact g_zret X hr hlk (by decide) dMO_meets_37 ⟨false, rfl, h⟩
  · have h := h.2 c
    refine g_lload X dMO_meets_6 3 rfl ?_
    refine g_lconst X (v := (0 : Int64)) dMO_meets_8 (by decide) ?_
    refine g_lif_le X dMO_meets_9 dMO_meets_10 (fun c => ?_) (fun c => ?_)
    · have h := h.1 c
      refine g_iconst X (v := (0 : Int32)) dMO_meets_36 (by decide) ?_
      exact g_zret X hr hlk (by decide) dMO_meets_37 ⟨false, rfl, h⟩
    · have h := h.2 c
      refine g_lload_n X dMO_meets_13 rfl 0 rfl ?_
      refine g_lload X dMO_meets_14 2 rfl ?_
      refine g_lload X dMO_meets_16 3 rfl ?_
      refine g_ladd X dMO_meets_18 ?_
      refine g_lif_ge X dMO_meets_19 dMO_meets_20 (fun c => ?_) (fun c => ?_)
      · have h := h.1 c
        refine g_iconst X (v := (0 : Int32)) dMO_meets_36 (by decide) ?_
        exact g_zret X hr hlk (by decide) dMO_meets_37 ⟨false, rfl, h⟩
      · have h := h.2 c
        refine g_lload X dMO_meets_23 2 rfl ?_
        refine g_lload_n X dMO_meets_25 rfl 0 rfl ?_
        refine g_lload_n X dMO_meets_26 rfl 1 rfl ?_
        refine g_ladd X dMO_meets_27 ?_
        refine g_lif_ge X dMO_meets_28 dMO_meets_29 (fun c => ?_) (fun c => ?_)
        · have h := h.1 c
          refine g_iconst X (v := (0 : Int32)) dMO_meets_36 (by decide) ?_
          exact g_zret X hr hlk (by decide) dMO_meets_37 ⟨false, rfl, h⟩
        · have h := h.2 c
          refine g_iconst X (v := (1 : Int32)) dMO_meets_32 (by decide) ?_
          refine g_goto X dMO_meets_33 ?_
          exact g_zret X hr hlk (by decide) dMO_meets_37 ⟨true, rfl, h⟩
set_option maxRecDepth 100000 in
set_option maxHeartbeats 4000000 in
theorem m_MO_entryFault {l : Launch} {D : va_G} {ta : Nat → ClassId} {base : Nat} {sa : Nat → Nat} {post : Int32 → gMem → Prop} {a0 : Int32} {M : gMem} (h : wp_MO_entryFault post a0 M) : GC gLay gCl D ta base gNw sa gTabs gTs l y_MO_entryFault b_MO_entryFault 12 (some .int) 3 64 [.ref (base + 41), .int a0] M (gPi post) := by
  refine GC.of (own := "ObjectFileModel") pn_MO rfl (Nat.le_of_ble_eq_true rfl) ?_
  intro p e s m below meth c X hK hr hlk
  have r_77 : ∀ (v1 : Int32) (M : gMem), wj_MO_entryFault_77 post v1 M → GMx D ta base p l e 3 64 s m [.ref (base + 41), .int a0] below meth c (gPi post) 12 77 [(0, .ref (base + 41)), (1, .int v1)] [] M := by
    intro v1 M h
    unfold wj_MO_entryFault_77 at h
    refine g_aload_n X dMO_entryFault_77 rfl 0 rfl ?_
    refine g_bipush X (v := (11 : Int32)) dMO_entryFault_78 (by decide) ?_
    refine g_aload_n X dMO_entryFault_80 rfl 0 rfl ?_
    refine g_iload_n X dMO_entryFault_81 rfl 1 rfl ?_
    refine g_iconst X (v := (1 : Int32)) dMO_entryFault_82 (by decide) ?_
    refine g_callV X hK gTs_ok ly_41 rfl mw_MO_spotOf tw_1267 mi_MO_spotOf ms_MO_spotOf (As := [.int v1, .int (1 : Int32)]) rfl ⟨(Nat.le_of_ble_eq_true rfl), (Nat.le_of_ble_eq_true rfl), Nat.le_refl _, Nat.le_refl _⟩ (m_MO_spotOf h) (rest := [.int (11 : Int32), .ref (base + 41)]) rfl (Nat.le_of_ble_eq_true rfl) dMO_entryFault_83 (gk_i (fun r3 M4 h => ?_))
    refine g_callV X hK gTs_ok ly_41 rfl mw_MO_fault tw_1243 mi_MO_fault ms_MO_fault (As := [.int (11 : Int32), .int r3]) rfl ⟨(Nat.le_of_ble_eq_true rfl), (Nat.le_of_ble_eq_true rfl), Nat.le_refl _, Nat.le_refl _⟩ (m_MO_fault h) (rest := []) rfl (Nat.le_of_ble_eq_true rfl) dMO_entryFault_86 (gk_i (fun r5 M6 h => ?_))
    exact g_iret X hr hlk dMO_entryFault_89 ⟨_, rfl, h⟩
  have r_211 : ∀ (v1 : Int32) (M : gMem), wj_MO_entryFault_211 post v1 M → GMx D ta base p l e 3 64 s m [.ref (base + 41), .int a0] below meth c (gPi post) 12 211 [(0, .ref (base + 41)), (1, .int v1)] [] M := by
    intro v1 M h
    unfold wj_MO_entryFault_211 at h
    refine g_aload_n X dMO_entryFault_211 rfl 0 rfl ?_
    refine g_bipush X (v := (13 : Int32)) dMO_entryFault_212 (by decide) ?_
    refine g_aload_n X dMO_entryFault_214 rfl 0 rfl ?_
    refine g_iload_n X dMO_entryFault_215 rfl 1 rfl ?_
    refine g_bipush X (v := (8 : Int32)) dMO_entryFault_216 (by decide) ?_
    refine g_callV X hK gTs_ok ly_41 rfl mw_MO_spotOf tw_1267 mi_MO_spotOf ms_MO_spotOf (As := [.int v1, .int (8 : Int32)]) rfl ⟨(Nat.le_of_ble_eq_true rfl), (Nat.le_of_ble_eq_true rfl), Nat.le_refl _, Nat.le_refl _⟩ (m_MO_spotOf h) (rest := [.int (13 : Int32), .ref (base + 41)]) rfl (Nat.le_of_ble_eq_true rfl) dMO_entryFault_218 (gk_i (fun r13 M14 h => ?_))
    refine g_callV X hK gTs_ok ly_41 rfl mw_MO_fault tw_1243 mi_MO_fault ms_MO_fault (As := [.int (13 : Int32), .int r13]) rfl ⟨(Nat.le_of_ble_eq_true rfl), (Nat.le_of_ble_eq_true rfl), Nat.le_refl _, Nat.le_refl _⟩ (m_MO_fault h) (rest := []) rfl (Nat.le_of_ble_eq_true rfl) dMO_entryFault_221 (gk_i (fun r15 M16 h => ?_))
    exact g_iret X hr hlk dMO_entryFault_224 ⟨_, rfl, h⟩
  have r_270 : ∀ (n : Nat) (v1 : Int32) (v4 : Int64) (v6 : Int64) (v8 : Int32) (v11 : Int32) (M : gMem), wl_MO_entryFault_270 post n v1 v4 v6 v8 v11 M → GMx D ta base p l e 3 64 s m [.ref (base + 41), .int a0] below meth c (gPi post) 12 270 [(0, .ref (base + 41)), (1, .int v1), (4, .long v4), (6, .long v6), (8, .int v8), (11, .int v11)] [] M := by
    intro n
    induction n with
    | zero => exact fun _ _ _ _ _ M h => h.elim
    | succ n ih =>
      intro v1 v4 v6 v8 v11 M h
      refine g_iload X dMO_entryFault_270 5 rfl ?_
      refine g_iload_n X dMO_entryFault_272 rfl 1 rfl ?_
      refine g_icmp_ge X dMO_entryFault_273 (fun c => ?_) (fun c => ?_)
      · have h := h.1 c
        refine g_iconst X (v := (0 : Int32)) dMO_entryFault_338 (by decide) ?_
        exact g_iret X hr hlk dMO_entryFault_339 ⟨_, rfl, h⟩
      · have h := h.2 c
        refine g_iload X dMO_entryFault_276 4 rfl ?_
        refine g_if_eq X dMO_entryFault_278 (fun c => ?_) (fun c => ?_)
        · have h := h.1 c
          refine g_iconst X (v := (0 : Int32)) dMO_entryFault_338 (by decide) ?_
          exact g_iret X hr hlk dMO_entryFault_339 ⟨_, rfl, h⟩
        · have h := h.2 c
          refine g_aload_n X dMO_entryFault_281 rfl 0 rfl ?_
          refine g_iload X dMO_entryFault_282 5 rfl ?_
          refine g_iconst X (v := (1 : Int32)) dMO_entryFault_284 (by decide) ?_
          refine g_callV X hK gTs_ok ly_41 rfl mw_MO_told tw_1263 mi_MO_told ms_MO_told (As := [.int v11, .int (1 : Int32)]) rfl ⟨(Nat.le_of_ble_eq_true rfl), (Nat.le_of_ble_eq_true rfl), Nat.le_refl _, Nat.le_refl _⟩ (m_MO_told h) (rest := []) rfl (Nat.le_of_ble_eq_true rfl) dMO_entryFault_285 (gk_l (fun r19 M20 h => ?_))
          refine g_ldc2 X (v := (8 : Int64)) (tw_1271) dMO_entryFault_288 ?_
          refine g_lif_eq X dMO_entryFault_291 dMO_entryFault_292 (fun c => ?_) (fun c => ?_)
          · have h := h.1 c
            obtain ⟨x21, ex21⟩ : ∃ z : Int32, z = v11 + (1 : Int32) := ⟨_, rfl⟩
            have h := h x21 ex21
            refine g_iinc X (L' := [(11, .int x21), (0, .ref (base + 41)), (1, .int v1), (4, .long v4), (6, .long v6), (8, .int v8)]) (k := 5) dMO_entryFault_332 rfl (v := x21) (by rw [ex21]; rfl) (Nat.le_of_ble_eq_true rfl) rfl ?_
            refine g_goto X dMO_entryFault_335 ?_
            refine g_sub (L' := [(0, .ref (base + 41)), (1, .int v1), (4, .long v4), (6, .long v6), (8, .int v8), (11, .int x21)]) [1, 2, 3, 4, 5, 0] rfl ?_
            exact ih v1 v4 v6 v8 x21 M20 h
          · have h := h.2 c
            refine g_lload X dMO_entryFault_295 2 rfl ?_
            refine g_lload X dMO_entryFault_297 3 rfl ?_
            refine g_aload_n X dMO_entryFault_299 rfl 0 rfl ?_
            refine g_iload X dMO_entryFault_300 5 rfl ?_
            refine g_iconst X (v := (4 : Int32)) dMO_entryFault_302 (by decide) ?_
            refine g_callV X hK gTs_ok ly_41 rfl mw_MO_told tw_1263 mi_MO_told ms_MO_told (As := [.int v11, .int (4 : Int32)]) rfl ⟨(Nat.le_of_ble_eq_true rfl), (Nat.le_of_ble_eq_true rfl), Nat.le_refl _, Nat.le_refl _⟩ (m_MO_told h) (rest := [.long v6, .long v4]) rfl (Nat.le_of_ble_eq_true rfl) dMO_entryFault_303 (gk_l (fun r22 M23 h => ?_))
            refine g_aload_n X dMO_entryFault_306 rfl 0 rfl ?_
            refine g_iload X dMO_entryFault_307 5 rfl ?_
            refine g_iconst X (v := (5 : Int32)) dMO_entryFault_309 (by decide) ?_
            refine g_callV X hK gTs_ok ly_41 rfl mw_MO_told tw_1263 mi_MO_told ms_MO_told (As := [.int v11, .int (5 : Int32)]) rfl ⟨(Nat.le_of_ble_eq_true rfl), (Nat.le_of_ble_eq_true rfl), Nat.le_refl _, Nat.le_refl _⟩ (m_MO_told h) (rest := [.long r22, .long v6, .long v4]) rfl (Nat.le_of_ble_eq_true rfl) dMO_entryFault_310 (gk_l (fun r24 M25 h => ?_))
            refine g_callS X hK gTs_ok mw_MO_meets tw_1273 mt_MO_meets (As := [.long v4, .long v6, .long r22, .long r24]) rfl ⟨(Nat.le_of_ble_eq_true rfl), (Nat.le_of_ble_eq_true rfl), Nat.le_refl _, Nat.le_refl _⟩ (m_MO_meets h) (rest := []) rfl (Nat.le_of_ble_eq_true rfl) dMO_entryFault_313 (gk_z (fun r26 M27 h => ?_))
            refine g_if_eq X dMO_entryFault_316 (fun c => ?_) (fun c => ?_)
            · have h := h.1 c
              obtain ⟨x28, ex28⟩ : ∃ z : Int32, z = v11 + (1 : Int32) := ⟨_, rfl⟩
              have h := h x28 ex28
              refine g_iinc X (L' := [(11, .int x28), (0, .ref (base + 41)), (1, .int v1), (4, .long v4), (6, .long v6), (8, .int v8)]) (k := 5) dMO_entryFault_332 rfl (v := x28) (by rw [ex28]; rfl) (Nat.le_of_ble_eq_true rfl) rfl ?_
              refine g_goto X dMO_entryFault_335 ?_
              refine g_sub (L' := [(0, .ref (base + 41)), (1, .int v1), (4, .long v4), (6, .long v6), (8, .int v8), (11, .int x28)]) [1, 2, 3, 4, 5, 0] rfl ?_
              exact ih v1 v4 v6 v8 x28 M27 h
            · have h := h.2 c
              refine g_aload_n X dMO_entryFault_319 rfl 0 rfl ?_
              refine g_bipush X (v := (14 : Int32)) dMO_entryFault_320 (by decide) ?_
              refine g_aload_n X dMO_entryFault_322 rfl 0 rfl ?_
              refine g_iload_n X dMO_entryFault_323 rfl 1 rfl ?_
              refine g_iconst X (v := (4 : Int32)) dMO_entryFault_324 (by decide) ?_
              refine g_callV X hK gTs_ok ly_41 rfl mw_MO_spotOf tw_1267 mi_MO_spotOf ms_MO_spotOf (As := [.int v1, .int (4 : Int32)]) rfl ⟨(Nat.le_of_ble_eq_true rfl), (Nat.le_of_ble_eq_true rfl), Nat.le_refl _, Nat.le_refl _⟩ (m_MO_spotOf h) (rest := [.int (14 : Int32), .ref (base + 41)]) rfl (Nat.le_of_ble_eq_true rfl) dMO_entryFault_325 (gk_i (fun r29 M30 h => ?_))
              refine g_callV X hK gTs_ok ly_41 rfl mw_MO_fault tw_1243 mi_MO_fault ms_MO_fault (As := [.int (14 : Int32), .int r29]) rfl ⟨(Nat.le_of_ble_eq_true rfl), (Nat.le_of_ble_eq_true rfl), Nat.le_refl _, Nat.le_refl _⟩ (m_MO_fault h) (rest := []) rfl (Nat.le_of_ble_eq_true rfl) dMO_entryFault_328 (gk_i (fun r31 M32 h => ?_))
              exact g_iret X hr hlk dMO_entryFault_331 ⟨_, rfl, h⟩
  have r_225 : ∀ (v1 : Int32) (v4 : Int64) (v6 : Int64) (v8 : Int32) (M : gMem), wj_MO_entryFault_225 post v1 v4 v6 v8 M → GMx D ta base p l e 3 64 s m [.ref (base + 41), .int a0] below meth c (gPi post) 12 225 [(0, .ref (base + 41)), (1, .int v1), (4, .long v4), (6, .long v6), (8, .int v8)] [] M := by
    intro v1 v4 v6 v8 M h
    unfold wj_MO_entryFault_225 at h
    refine g_iload X dMO_entryFault_225 4 rfl ?_
    refine g_if_eq X dMO_entryFault_227 (fun c => ?_) (fun c => ?_)
    · have h := h.1 c
      refine g_iconst X (v := (1 : Int32)) dMO_entryFault_267 (by decide) ?_
      refine g_istore X (L' := [(11, .int (1 : Int32)), (0, .ref (base + 41)), (1, .int v1), (4, .long v4), (6, .long v6), (8, .int v8)]) dMO_entryFault_268 (Nat.le_of_ble_eq_true rfl) rfl ?_
      refine g_sub (L' := [(0, .ref (base + 41)), (1, .int v1), (4, .long v4), (6, .long v6), (8, .int v8), (11, .int (1 : Int32))]) [1, 2, 3, 4, 5, 0] rfl ?_
      obtain ⟨n9, h⟩ := h
      exact r_270 n9 v1 v4 v6 v8 (1 : Int32) M h
    · have h := h.2 c
      refine g_lload X dMO_entryFault_230 2 rfl ?_
      refine g_lload X dMO_entryFault_232 3 rfl ?_
      refine g_aload_n X dMO_entryFault_234 rfl 0 rfl ?_
      refine g_geti X hK.1 fw_MO_254 ly_41 rfl dMO_entryFault_235 ?_
      refine g_i2l X dMO_entryFault_238 rfl ?_
      refine g_ldc2 X (v := (40 : Int64)) (tw_1258) dMO_entryFault_239 ?_
      refine g_aload_n X dMO_entryFault_242 rfl 0 rfl ?_
      refine g_geti X hK.1 fw_MO_195 ly_41 rfl dMO_entryFault_243 ?_
      refine g_i2l X dMO_entryFault_246 rfl ?_
      refine g_lmul X dMO_entryFault_247 ?_
      refine g_callS X hK gTs_ok mw_MO_meets tw_1273 mt_MO_meets (As := [.long v4, .long v6, .long ((M 41 39).toInt64), .long ((40 : Int64) * ((M 41 40).toInt64))]) rfl ⟨(Nat.le_of_ble_eq_true rfl), (Nat.le_of_ble_eq_true rfl), Nat.le_refl _, Nat.le_refl _⟩ (m_MO_meets h) (rest := []) rfl (Nat.le_of_ble_eq_true rfl) dMO_entryFault_248 (gk_z (fun r33 M34 h => ?_))
      refine g_if_eq X dMO_entryFault_251 (fun c => ?_) (fun c => ?_)
      · have h := h.1 c
        refine g_iconst X (v := (1 : Int32)) dMO_entryFault_267 (by decide) ?_
        refine g_istore X (L' := [(11, .int (1 : Int32)), (0, .ref (base + 41)), (1, .int v1), (4, .long v4), (6, .long v6), (8, .int v8)]) dMO_entryFault_268 (Nat.le_of_ble_eq_true rfl) rfl ?_
        refine g_sub (L' := [(0, .ref (base + 41)), (1, .int v1), (4, .long v4), (6, .long v6), (8, .int v8), (11, .int (1 : Int32))]) [1, 2, 3, 4, 5, 0] rfl ?_
        obtain ⟨n9, h⟩ := h
        exact r_270 n9 v1 v4 v6 v8 (1 : Int32) M34 h
      · have h := h.2 c
        refine g_aload_n X dMO_entryFault_254 rfl 0 rfl ?_
        refine g_bipush X (v := (14 : Int32)) dMO_entryFault_255 (by decide) ?_
        refine g_aload_n X dMO_entryFault_257 rfl 0 rfl ?_
        refine g_iload_n X dMO_entryFault_258 rfl 1 rfl ?_
        refine g_iconst X (v := (4 : Int32)) dMO_entryFault_259 (by decide) ?_
        refine g_callV X hK gTs_ok ly_41 rfl mw_MO_spotOf tw_1267 mi_MO_spotOf ms_MO_spotOf (As := [.int v1, .int (4 : Int32)]) rfl ⟨(Nat.le_of_ble_eq_true rfl), (Nat.le_of_ble_eq_true rfl), Nat.le_refl _, Nat.le_refl _⟩ (m_MO_spotOf h) (rest := [.int (14 : Int32), .ref (base + 41)]) rfl (Nat.le_of_ble_eq_true rfl) dMO_entryFault_260 (gk_i (fun r35 M36 h => ?_))
        refine g_callV X hK gTs_ok ly_41 rfl mw_MO_fault tw_1243 mi_MO_fault ms_MO_fault (As := [.int (14 : Int32), .int r35]) rfl ⟨(Nat.le_of_ble_eq_true rfl), (Nat.le_of_ble_eq_true rfl), Nat.le_refl _, Nat.le_refl _⟩ (m_MO_fault h) (rest := []) rfl (Nat.le_of_ble_eq_true rfl) dMO_entryFault_263 (gk_i (fun r37 M38 h => ?_))
        exact g_iret X hr hlk dMO_entryFault_266 ⟨_, rfl, h⟩
  have r_169 : ∀ (v1 : Int32) (v4 : Int64) (v6 : Int64) (v8 : Int32) (M : gMem), wj_MO_entryFault_169 post v1 v4 v6 v8 M → GMx D ta base p l e 3 64 s m [.ref (base + 41), .int a0] below meth c (gPi post) 12 169 [(0, .ref (base + 41)), (1, .int v1), (4, .long v4), (6, .long v6), (8, .int v8)] [] M := by
    intro v1 v4 v6 v8 M h
    unfold wj_MO_entryFault_169 at h
    refine g_aload_n X dMO_entryFault_169 rfl 0 rfl ?_
    refine g_iload_n X dMO_entryFault_170 rfl 1 rfl ?_
    refine g_bipush X (v := (8 : Int32)) dMO_entryFault_171 (by decide) ?_
    refine g_callV X hK gTs_ok ly_41 rfl mw_MO_told tw_1263 mi_MO_told ms_MO_told (As := [.int v1, .int (8 : Int32)]) rfl ⟨(Nat.le_of_ble_eq_true rfl), (Nat.le_of_ble_eq_true rfl), Nat.le_refl _, Nat.le_refl _⟩ (m_MO_told h) (rest := []) rfl (Nat.le_of_ble_eq_true rfl) dMO_entryFault_173 (gk_l (fun r11 M12 h => ?_))
    refine g_lstore X (L' := [(9, .long r11), (0, .ref (base + 41)), (1, .int v1), (4, .long v4), (6, .long v6), (8, .int v8)]) dMO_entryFault_176 (Nat.le_of_ble_eq_true rfl) rfl ?_
    refine g_lload X dMO_entryFault_178 0 rfl ?_
    refine g_ldc2 X (v := (64 : Int64)) (tw_1272) dMO_entryFault_180 ?_
    refine g_lif_gt X dMO_entryFault_183 dMO_entryFault_184 (fun c => ?_) (fun c => ?_)
    · have h := h.1 c
      refine g_sub (L' := [(0, .ref (base + 41)), (1, .int v1)]) [1, 2] rfl ?_
      exact r_211 v1 M12 h
    · have h := h.2 c
      refine g_lload X dMO_entryFault_187 0 rfl ?_
      refine g_l2i X dMO_entryFault_189 rfl ?_
      refine g_callS X hK gTs_ok mw_MO_isPower tw_1100 mt_MO_isPower (As := [.int (r11.toInt32)]) rfl ⟨(Nat.le_of_ble_eq_true rfl), (Nat.le_of_ble_eq_true rfl), Nat.le_refl _, Nat.le_refl _⟩ (m_MO_isPower h) (rest := []) rfl (Nat.le_of_ble_eq_true rfl) dMO_entryFault_190 (gk_z (fun r17 M18 h => ?_))
      refine g_if_eq X dMO_entryFault_193 (fun c => ?_) (fun c => ?_)
      · have h := h.1 c
        refine g_sub (L' := [(0, .ref (base + 41)), (1, .int v1)]) [1, 2] rfl ?_
        exact r_211 v1 M18 h
      · have h := h.2 c
        refine g_iload X dMO_entryFault_196 5 rfl ?_
        refine g_if_eq X dMO_entryFault_198 (fun c => ?_) (fun c => ?_)
        · have h := h.1 c
          refine g_sub (L' := [(0, .ref (base + 41)), (1, .int v1), (4, .long v4), (6, .long v6), (8, .int v8)]) [1, 2, 3, 4, 5] rfl ?_
          exact r_225 v1 v4 v6 v8 M18 h
        · have h := h.2 c
          refine g_lload X dMO_entryFault_201 3 rfl ?_
          refine g_lload X dMO_entryFault_203 0 rfl ?_
          obtain ⟨hz, h⟩ := h
          refine g_lrem X dMO_entryFault_205 hz ?_
          refine g_lconst X (v := (0 : Int64)) dMO_entryFault_206 (by decide) ?_
          refine g_lif_eq X dMO_entryFault_207 dMO_entryFault_208 (fun c => ?_) (fun c => ?_)
          · have h := h.1 c
            refine g_sub (L' := [(0, .ref (base + 41)), (1, .int v1), (4, .long v4), (6, .long v6), (8, .int v8)]) [1, 2, 3, 4, 5] rfl ?_
            exact r_225 v1 v4 v6 v8 M18 h
          · have h := h.2 c
            refine g_sub (L' := [(0, .ref (base + 41)), (1, .int v1)]) [1, 2] rfl ?_
            exact r_211 v1 M18 h
  have r_156 : ∀ (v1 : Int32) (M : gMem), wj_MO_entryFault_156 post v1 M → GMx D ta base p l e 3 64 s m [.ref (base + 41), .int a0] below meth c (gPi post) 12 156 [(0, .ref (base + 41)), (1, .int v1)] [] M := by
    intro v1 M h
    unfold wj_MO_entryFault_156 at h
    refine g_aload_n X dMO_entryFault_156 rfl 0 rfl ?_
    refine g_bipush X (v := (12 : Int32)) dMO_entryFault_157 (by decide) ?_
    refine g_aload_n X dMO_entryFault_159 rfl 0 rfl ?_
    refine g_iload_n X dMO_entryFault_160 rfl 1 rfl ?_
    refine g_iconst X (v := (4 : Int32)) dMO_entryFault_161 (by decide) ?_
    refine g_callV X hK gTs_ok ly_41 rfl mw_MO_spotOf tw_1267 mi_MO_spotOf ms_MO_spotOf (As := [.int v1, .int (4 : Int32)]) rfl ⟨(Nat.le_of_ble_eq_true rfl), (Nat.le_of_ble_eq_true rfl), Nat.le_refl _, Nat.le_refl _⟩ (m_MO_spotOf h) (rest := [.int (12 : Int32), .ref (base + 41)]) rfl (Nat.le_of_ble_eq_true rfl) dMO_entryFault_162 (gk_i (fun r39 M40 h => ?_))
    refine g_callV X hK gTs_ok ly_41 rfl mw_MO_fault tw_1243 mi_MO_fault ms_MO_fault (As := [.int (12 : Int32), .int r39]) rfl ⟨(Nat.le_of_ble_eq_true rfl), (Nat.le_of_ble_eq_true rfl), Nat.le_refl _, Nat.le_refl _⟩ (m_MO_fault h) (rest := []) rfl (Nat.le_of_ble_eq_true rfl) dMO_entryFault_165 (gk_i (fun r41 M42 h => ?_))
    exact g_iret X hr hlk dMO_entryFault_168 ⟨_, rfl, h⟩
  have r_119 : ∀ (v1 : Int32) (v4 : Int64) (v6 : Int64) (s0 : Int32) (M : gMem), wj_MO_entryFault_119 post v1 v4 v6 s0 M → GMx D ta base p l e 3 64 s m [.ref (base + 41), .int a0] below meth c (gPi post) 12 119 [(0, .ref (base + 41)), (1, .int v1), (4, .long v4), (6, .long v6)] [.int s0] M := by
    intro v1 v4 v6 s0 M h
    unfold wj_MO_entryFault_119 at h
    refine g_istore X (L' := [(8, .int s0), (0, .ref (base + 41)), (1, .int v1), (4, .long v4), (6, .long v6)]) dMO_entryFault_119 (Nat.le_of_ble_eq_true rfl) rfl ?_
    refine g_iload X dMO_entryFault_121 0 rfl ?_
    refine g_if_eq X dMO_entryFault_123 (fun c => ?_) (fun c => ?_)
    · have h := h.1 c
      refine g_sub (L' := [(0, .ref (base + 41)), (1, .int v1), (4, .long v4), (6, .long v6), (8, .int s0)]) [1, 2, 3, 4, 0] rfl ?_
      exact r_169 v1 v4 v6 s0 M h
    · have h := h.2 c
      refine g_lload X dMO_entryFault_126 3 rfl ?_
      refine g_lload X dMO_entryFault_128 4 rfl ?_
      refine g_ladd X dMO_entryFault_130 ?_
      refine g_aload_n X dMO_entryFault_131 rfl 1 rfl ?_
      refine g_geti X hK.1 fw_MO_233 ly_41 rfl dMO_entryFault_132 ?_
      refine g_i2l X dMO_entryFault_135 rfl ?_
      refine g_lif_gt X dMO_entryFault_136 dMO_entryFault_137 (fun c => ?_) (fun c => ?_)
      · have h := h.1 c
        refine g_sub (L' := [(0, .ref (base + 41)), (1, .int v1)]) [1, 2] rfl ?_
        exact r_156 v1 M h
      · have h := h.2 c
        refine g_lload X dMO_entryFault_140 4 rfl ?_
        refine g_lconst X (v := (0 : Int64)) dMO_entryFault_142 (by decide) ?_
        refine g_lif_le X dMO_entryFault_143 dMO_entryFault_144 (fun c => ?_) (fun c => ?_)
        · have h := h.1 c
          refine g_sub (L' := [(0, .ref (base + 41)), (1, .int v1), (4, .long v4), (6, .long v6), (8, .int s0)]) [1, 2, 3, 4, 0] rfl ?_
          exact r_169 v1 v4 v6 s0 M h
        · have h := h.2 c
          refine g_lload X dMO_entryFault_147 3 rfl ?_
          refine g_ldc2 X (v := (52 : Int64)) (tw_1257) dMO_entryFault_149 ?_
          refine g_lif_ge X dMO_entryFault_152 dMO_entryFault_153 (fun c => ?_) (fun c => ?_)
          · have h := h.1 c
            refine g_sub (L' := [(0, .ref (base + 41)), (1, .int v1), (4, .long v4), (6, .long v6), (8, .int s0)]) [1, 2, 3, 4, 0] rfl ?_
            exact r_169 v1 v4 v6 s0 M h
          · have h := h.2 c
            refine g_sub (L' := [(0, .ref (base + 41)), (1, .int v1)]) [1, 2] rfl ?_
            exact r_156 v1 M h
  have r_90 : ∀ (v1 : Int32) (v2 : Int64) (M : gMem), wj_MO_entryFault_90 post v1 v2 M → GMx D ta base p l e 3 64 s m [.ref (base + 41), .int a0] below meth c (gPi post) 12 90 [(0, .ref (base + 41)), (1, .int v1), (2, .long v2)] [] M := by
    intro v1 v2 M h
    unfold wj_MO_entryFault_90 at h
    refine g_aload_n X dMO_entryFault_90 rfl 0 rfl ?_
    refine g_iload_n X dMO_entryFault_91 rfl 1 rfl ?_
    refine g_iconst X (v := (4 : Int32)) dMO_entryFault_92 (by decide) ?_
    refine g_callV X hK gTs_ok ly_41 rfl mw_MO_told tw_1263 mi_MO_told ms_MO_told (As := [.int v1, .int (4 : Int32)]) rfl ⟨(Nat.le_of_ble_eq_true rfl), (Nat.le_of_ble_eq_true rfl), Nat.le_refl _, Nat.le_refl _⟩ (m_MO_told h) (rest := []) rfl (Nat.le_of_ble_eq_true rfl) dMO_entryFault_93 (gk_l (fun r7 M8 h => ?_))
    refine g_lstore X (L' := [(4, .long r7), (0, .ref (base + 41)), (1, .int v1), (2, .long v2)]) dMO_entryFault_96 (Nat.le_of_ble_eq_true rfl) rfl ?_
    refine g_aload_n X dMO_entryFault_98 rfl 1 rfl ?_
    refine g_iload_n X dMO_entryFault_99 rfl 2 rfl ?_
    refine g_iconst X (v := (5 : Int32)) dMO_entryFault_100 (by decide) ?_
    refine g_callV X hK gTs_ok ly_41 rfl mw_MO_told tw_1263 mi_MO_told ms_MO_told (As := [.int v1, .int (5 : Int32)]) rfl ⟨(Nat.le_of_ble_eq_true rfl), (Nat.le_of_ble_eq_true rfl), Nat.le_refl _, Nat.le_refl _⟩ (m_MO_told h) (rest := []) rfl (Nat.le_of_ble_eq_true rfl) dMO_entryFault_101 (gk_l (fun r9 M10 h => ?_))
    refine g_lstore X (L' := [(6, .long r9), (4, .long r7), (0, .ref (base + 41)), (1, .int v1), (2, .long v2)]) dMO_entryFault_104 (Nat.le_of_ble_eq_true rfl) rfl ?_
    refine g_lload_n X dMO_entryFault_106 rfl 4 rfl ?_
    refine g_ldc2 X (v := (8 : Int64)) (tw_1271) dMO_entryFault_107 ?_
    refine g_lif_eq X dMO_entryFault_110 dMO_entryFault_111 (fun c => ?_) (fun c => ?_)
    · have h := h.1 c
      refine g_iconst X (v := (0 : Int32)) dMO_entryFault_118 (by decide) ?_
      refine g_sub (L' := [(0, .ref (base + 41)), (1, .int v1), (4, .long r7), (6, .long r9)]) [2, 3, 1, 0] rfl ?_
      exact r_119 v1 r7 r9 (0 : Int32) M10 h
    · have h := h.2 c
      refine g_iconst X (v := (1 : Int32)) dMO_entryFault_114 (by decide) ?_
      refine g_goto X dMO_entryFault_115 ?_
      refine g_sub (L' := [(0, .ref (base + 41)), (1, .int v1), (4, .long r7), (6, .long r9)]) [2, 3, 1, 0] rfl ?_
      exact r_119 v1 r7 r9 (1 : Int32) M10 h
  have r_42 : ∀ (v1 : Int32) (M : gMem), wj_MO_entryFault_42 post v1 M → GMx D ta base p l e 3 64 s m [.ref (base + 41), .int a0] below meth c (gPi post) 12 42 [(0, .ref (base + 41)), (1, .int v1)] [] M := by
    intro v1 M h
    unfold wj_MO_entryFault_42 at h
    refine g_iload_n X dMO_entryFault_42 rfl 1 rfl ?_
    refine g_if_ne X dMO_entryFault_43 (fun c => ?_) (fun c => ?_)
    · have h := h.1 c
      refine g_aload_n X dMO_entryFault_48 rfl 0 rfl ?_
      refine g_iload_n X dMO_entryFault_49 rfl 1 rfl ?_
      refine g_iconst X (v := (1 : Int32)) dMO_entryFault_50 (by decide) ?_
      refine g_callV X hK gTs_ok ly_41 rfl mw_MO_told tw_1263 mi_MO_told ms_MO_told (As := [.int v1, .int (1 : Int32)]) rfl ⟨(Nat.le_of_ble_eq_true rfl), (Nat.le_of_ble_eq_true rfl), Nat.le_refl _, Nat.le_refl _⟩ (m_MO_told h) (rest := []) rfl (Nat.le_of_ble_eq_true rfl) dMO_entryFault_51 (gk_l (fun r1 M2 h => ?_))
      refine g_lstore_n X (L' := [(2, .long r1), (0, .ref (base + 41)), (1, .int v1)]) dMO_entryFault_54 rfl (Nat.le_of_ble_eq_true rfl) rfl ?_
      refine g_lload_n X dMO_entryFault_55 rfl 0 rfl ?_
      refine g_lconst X (v := (1 : Int64)) dMO_entryFault_56 (by decide) ?_
      refine g_lif_lt X dMO_entryFault_57 dMO_entryFault_58 (fun c => ?_) (fun c => ?_)
      · have h := h.1 c
        refine g_sub (L' := [(0, .ref (base + 41)), (1, .int v1)]) [1, 2] rfl ?_
        exact r_77 v1 M2 h
      · have h := h.2 c
        refine g_lload_n X dMO_entryFault_61 rfl 0 rfl ?_
        refine g_ldc2 X (v := (4 : Int64)) (tw_1256) dMO_entryFault_62 ?_
        refine g_lif_le X dMO_entryFault_65 dMO_entryFault_66 (fun c => ?_) (fun c => ?_)
        · have h := h.1 c
          refine g_sub (L' := [(0, .ref (base + 41)), (1, .int v1), (2, .long r1)]) [1, 2, 0] rfl ?_
          exact r_90 v1 r1 M2 h
        · have h := h.2 c
          refine g_lload_n X dMO_entryFault_69 rfl 0 rfl ?_
          refine g_ldc2 X (v := (8 : Int64)) (tw_1271) dMO_entryFault_70 ?_
          refine g_lif_eq X dMO_entryFault_73 dMO_entryFault_74 (fun c => ?_) (fun c => ?_)
          · have h := h.1 c
            refine g_sub (L' := [(0, .ref (base + 41)), (1, .int v1), (2, .long r1)]) [1, 2, 0] rfl ?_
            exact r_90 v1 r1 M2 h
          · have h := h.2 c
            refine g_sub (L' := [(0, .ref (base + 41)), (1, .int v1)]) [1, 2] rfl ?_
            exact r_77 v1 M2 h
    · have h := h.2 c
      refine g_iconst X (v := (0 : Int32)) dMO_entryFault_46 (by decide) ?_
      exact g_iret X hr hlk dMO_entryFault_47 ⟨_, rfl, h⟩
  have r_2 : ∀ (n : Nat) (v1 : Int32) (v2 : Int32) (M : gMem), wl_MO_entryFault_2 post n v1 v2 M → GMx D ta base p l e 3 64 s m [.ref (base + 41), .int a0] below meth c (gPi post) 12 2 [(0, .ref (base + 41)), (1, .int v1), (2, .int v2)] [] M := by
    intro n
    induction n with
    | zero => exact fun _ _ M h => h.elim
    | succ n ih =>
      intro v1 v2 M h
      refine g_iload_n X dMO_entryFault_2 rfl 2 rfl ?_
      refine g_bipush X (v := (10 : Int32)) dMO_entryFault_3 (by decide) ?_
      refine g_icmp_ge X dMO_entryFault_5 (fun c => ?_) (fun c => ?_)
      · have h := h.1 c
        refine g_sub (L' := [(0, .ref (base + 41)), (1, .int v1)]) [0, 1] rfl ?_
        exact r_42 v1 M h
      · have h := h.2 c
        refine g_iload_n X dMO_entryFault_8 rfl 1 rfl ?_
        refine g_if_ne X dMO_entryFault_9 (fun c => ?_) (fun c => ?_)
        · have h := h.1 c
          refine g_sub (L' := [(0, .ref (base + 41)), (1, .int v1)]) [0, 1] rfl ?_
          exact r_42 v1 M h
        · have h := h.2 c
          refine g_aload_n X dMO_entryFault_12 rfl 0 rfl ?_
          refine g_iconst X (v := (0 : Int32)) dMO_entryFault_13 (by decide) ?_
          refine g_iload_n X dMO_entryFault_14 rfl 2 rfl ?_
          refine g_callV X hK gTs_ok ly_41 rfl mw_MO_told tw_1263 mi_MO_told ms_MO_told (As := [.int (0 : Int32), .int v2]) rfl ⟨(Nat.le_of_ble_eq_true rfl), (Nat.le_of_ble_eq_true rfl), Nat.le_refl _, Nat.le_refl _⟩ (m_MO_told h) (rest := []) rfl (Nat.le_of_ble_eq_true rfl) dMO_entryFault_15 (gk_l (fun r43 M44 h => ?_))
          refine g_lconst X (v := (0 : Int64)) dMO_entryFault_18 (by decide) ?_
          refine g_lif_eq X dMO_entryFault_19 dMO_entryFault_20 (fun c => ?_) (fun c => ?_)
          · have h := h.1 c
            obtain ⟨x45, ex45⟩ : ∃ z : Int32, z = v2 + (1 : Int32) := ⟨_, rfl⟩
            have h := h x45 ex45
            refine g_iinc X (L' := [(2, .int x45), (0, .ref (base + 41)), (1, .int v1)]) (k := 2) dMO_entryFault_36 rfl (v := x45) (by rw [ex45]; rfl) (Nat.le_of_ble_eq_true rfl) rfl ?_
            refine g_goto X dMO_entryFault_39 ?_
            refine g_sub (L' := [(0, .ref (base + 41)), (1, .int v1), (2, .int x45)]) [1, 2, 0] rfl ?_
            exact ih v1 x45 M44 h
          · have h := h.2 c
            refine g_aload_n X dMO_entryFault_23 rfl 0 rfl ?_
            refine g_bipush X (v := (11 : Int32)) dMO_entryFault_24 (by decide) ?_
            refine g_aload_n X dMO_entryFault_26 rfl 0 rfl ?_
            refine g_iconst X (v := (0 : Int32)) dMO_entryFault_27 (by decide) ?_
            refine g_iload_n X dMO_entryFault_28 rfl 2 rfl ?_
            refine g_callV X hK gTs_ok ly_41 rfl mw_MO_spotOf tw_1267 mi_MO_spotOf ms_MO_spotOf (As := [.int (0 : Int32), .int v2]) rfl ⟨(Nat.le_of_ble_eq_true rfl), (Nat.le_of_ble_eq_true rfl), Nat.le_refl _, Nat.le_refl _⟩ (m_MO_spotOf h) (rest := [.int (11 : Int32), .ref (base + 41)]) rfl (Nat.le_of_ble_eq_true rfl) dMO_entryFault_29 (gk_i (fun r46 M47 h => ?_))
            refine g_callV X hK gTs_ok ly_41 rfl mw_MO_fault tw_1243 mi_MO_fault ms_MO_fault (As := [.int (11 : Int32), .int r46]) rfl ⟨(Nat.le_of_ble_eq_true rfl), (Nat.le_of_ble_eq_true rfl), Nat.le_refl _, Nat.le_refl _⟩ (m_MO_fault h) (rest := []) rfl (Nat.le_of_ble_eq_true rfl) dMO_entryFault_32 (gk_i (fun r48 M49 h => ?_))
            exact g_iret X hr hlk dMO_entryFault_35 ⟨_, rfl, h⟩
  refine g_args (L' := [(0, .ref (base + 41)), (1, .int a0)]) rfl ?_
  unfold wp_MO_entryFault at h
  refine g_iconst X (v := (0 : Int32)) dMO_entryFault_0 (by decide) ?_
  refine g_istore_n X (L' := [(2, .int (0 : Int32)), (0, .ref (base + 41)), (1, .int a0)]) dMO_entryFault_1 rfl (Nat.le_of_ble_eq_true rfl) rfl ?_
  refine g_sub (L' := [(0, .ref (base + 41)), (1, .int a0), (2, .int (0 : Int32))]) [1, 2, 0] rfl ?_
  obtain ⟨n9, h⟩ := h
  exact r_2 n9 a0 (0 : Int32) M h
