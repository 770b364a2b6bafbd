set_option maxRecDepth 100000 in
set_option maxHeartbeats 4000000 in
theorem m_MO_lay {l : Launch} {D : va_G} {ta : Nat → ClassId} {base : Nat} {sa : Nat → Nat} {post : Int32 → gMem → Prop} {M : gMem} (h : wp_MO_lay post M) : GC gLay gCl D ta base gNw sa gTabs gTs l y_MO_lay b_MO_lay 5 (some .int) 2 46 [.ref (base + 41)] M (gPi post) := by
  refine GC.of (own := "ObjectFileModel") pn_MO rfl (Nat.le_of_ble_eq_true rfl) ?_
  intro p e s m below meth c X hK hr hlk
  have r_295 : ∀ (k249 : Int32 → Int32 → gMem → Prop) (hk249 : ∀ (v1 : Int32) (v3 : Int32) (M : gMem), k249 v1 v3 M → GMx D ta base p l e 2 46 s m [.ref (base + 41)] below meth c (gPi post) 5 249 [(0, .ref (base + 41)), (1, .int v1), (3, .int v3)] [] M) (v3 : Int32) (s0 : Int32) (M : gMem), wj_MO_lay_295 post k249 v3 s0 M → GMx D ta base p l e 2 46 s m [.ref (base + 41)] below meth c (gPi post) 5 295 [(0, .ref (base + 41)), (3, .int v3)] [.int s0] M := by
    intro k249 hk249 v3 s0 M h
    unfold wj_MO_lay_295 at h
    refine g_istore_n X (L' := [(1, .int s0), (0, .ref (base + 41)), (3, .int v3)]) dMO_lay_295 rfl (Nat.le_of_ble_eq_true rfl) rfl ?_
    refine g_aload_n X dMO_lay_296 rfl 1 rfl ?_
    refine g_getr X hK.1 fw_MO_83 ly_41 rfl dMO_lay_297 ?_
    refine g_iload_n X dMO_lay_300 rfl 2 rfl ?_
    refine g_iload_n X dMO_lay_301 rfl 0 rfl ?_
    obtain ⟨hi, h⟩ := h
    refine g_iast X hK.1 ly_65 hi dMO_lay_302 ?_
    refine g_topM (fun M16 eM16 => ?_)
    have h := h M16 eM16
    refine g_iload_n X dMO_lay_303 rfl 0 rfl ?_
    refine g_aload_n X dMO_lay_304 rfl 1 rfl ?_
    refine g_getr X hK.1 fw_MO_86 ly_41 rfl dMO_lay_305 ?_
    refine g_iload_n X dMO_lay_308 rfl 2 rfl ?_
    obtain ⟨hi, h⟩ := h
    refine g_iald X hK.1 ly_66 hi dMO_lay_309 ?_
    refine g_iadd X dMO_lay_310 ?_
    refine g_topi (fun x17 ex17 => ?_)
    have h := h x17 ex17
    refine g_istore_n X (L' := [(1, .int x17), (0, .ref (base + 41)), (3, .int v3)]) dMO_lay_311 rfl (Nat.le_of_ble_eq_true rfl) rfl ?_
    obtain ⟨x18, ex18⟩ : ∃ z : Int32, z = v3 + (1 : Int32) := ⟨_, rfl⟩
    have h := h x18 ex18
    refine g_iinc X (L' := [(3, .int x18), (1, .int x17), (0, .ref (base + 41))]) (k := 2) dMO_lay_312 rfl (v := x18) (by rw [ex18]; rfl) (Nat.le_of_ble_eq_true rfl) rfl ?_
    refine g_goto X dMO_lay_315 ?_
    refine g_sub (L' := [(0, .ref (base + 41)), (1, .int x17), (3, .int x18)]) [2, 1, 0] rfl ?_
    exact hk249 x17 x18 M16 h
  have r_249 : ∀ (n : Nat) (v1 : Int32) (v3 : Int32) (M : gMem), wl_MO_lay_249 post n v1 v3 M → GMx D ta base p l e 2 46 s m [.ref (base + 41)] below meth c (gPi post) 5 249 [(0, .ref (base + 41)), (1, .int v1), (3, .int v3)] [] M := by
    intro n
    induction n with
    | zero => exact fun _ _ M h => h.elim
    | succ n ih =>
      intro v1 v3 M h
      refine g_iload_n X dMO_lay_249 rfl 2 rfl ?_
      refine g_bipush X (v := (11 : Int32)) dMO_lay_250 (by decide) ?_
      refine g_icmp_ge X dMO_lay_252 (fun c => ?_) (fun c => ?_)
      · have h := h.1 c
        refine g_iload_n X dMO_lay_318 rfl 1 rfl ?_
        refine g_iconst X (v := (4 : Int32)) dMO_lay_319 (by decide) ?_
        refine g_callS X hK gTs_ok mw_MO_roundUp tw_1136 mt_MO_roundUp (As := [.int v1, .int (4 : Int32)]) rfl ⟨(Nat.le_of_ble_eq_true rfl), (Nat.le_of_ble_eq_true rfl), Nat.le_refl _, Nat.le_refl _⟩ (m_MO_roundUp h) (rest := []) rfl (Nat.le_of_ble_eq_true rfl) dMO_lay_320 (gk_i (fun r14 M15 h => ?_))
        exact g_iret X hr hlk dMO_lay_323 ⟨_, rfl, h⟩
      · have h := h.2 c
        refine g_aload_n X dMO_lay_255 rfl 0 rfl ?_
        refine g_getr X hK.1 fw_MO_89 ly_41 rfl dMO_lay_256 ?_
        refine g_iload_n X dMO_lay_259 rfl 2 rfl ?_
        obtain ⟨hi, h⟩ := h
        refine g_iald X hK.1 ly_67 hi dMO_lay_260 ?_
        refine g_if_ne X dMO_lay_261 (fun c => ?_) (fun c => ?_)
        · have h := h.1 c
          refine g_iload_n X dMO_lay_267 rfl 2 rfl ?_
          refine g_iconst X (v := (4 : Int32)) dMO_lay_268 (by decide) ?_
          refine g_icmp_ne X dMO_lay_269 (fun c => ?_) (fun c => ?_)
          · have h := h.1 c
            refine g_iload_n X dMO_lay_280 rfl 2 rfl ?_
            refine g_bipush X (v := (9 : Int32)) dMO_lay_281 (by decide) ?_
            refine g_icmp_ge X dMO_lay_283 (fun c => ?_) (fun c => ?_)
            · have h := h.1 c
              refine g_iload_n X dMO_lay_294 rfl 1 rfl ?_
              refine g_sub (L' := [(0, .ref (base + 41)), (3, .int v3)]) [0, 2] rfl ?_
              exact r_295 _ (ih) v3 v1 M h
            · have h := h.2 c
              refine g_iload_n X dMO_lay_286 rfl 1 rfl ?_
              refine g_iconst X (v := (4 : Int32)) dMO_lay_287 (by decide) ?_
              refine g_callS X hK gTs_ok mw_MO_roundUp tw_1136 mt_MO_roundUp (As := [.int v1, .int (4 : Int32)]) rfl ⟨(Nat.le_of_ble_eq_true rfl), (Nat.le_of_ble_eq_true rfl), Nat.le_refl _, Nat.le_refl _⟩ (m_MO_roundUp h) (rest := []) rfl (Nat.le_of_ble_eq_true rfl) dMO_lay_288 (gk_i (fun r19 M20 h => ?_))
              refine g_goto X dMO_lay_291 ?_
              refine g_sub (L' := [(0, .ref (base + 41)), (3, .int v3)]) [0, 2] rfl ?_
              exact r_295 _ (ih) v3 r19 M20 h
          · have h := h.2 c
            refine g_iload_n X dMO_lay_272 rfl 1 rfl ?_
            refine g_iconst X (v := (2 : Int32)) dMO_lay_273 (by decide) ?_
            refine g_callS X hK gTs_ok mw_MO_roundUp tw_1136 mt_MO_roundUp (As := [.int v1, .int (2 : Int32)]) rfl ⟨(Nat.le_of_ble_eq_true rfl), (Nat.le_of_ble_eq_true rfl), Nat.le_refl _, Nat.le_refl _⟩ (m_MO_roundUp h) (rest := []) rfl (Nat.le_of_ble_eq_true rfl) dMO_lay_274 (gk_i (fun r21 M22 h => ?_))
            refine g_goto X dMO_lay_277 ?_
            refine g_sub (L' := [(0, .ref (base + 41)), (3, .int v3)]) [0, 2] rfl ?_
            exact r_295 _ (ih) v3 r21 M22 h
        · have h := h.2 c
          refine g_goto X dMO_lay_264 ?_
          obtain ⟨x23, ex23⟩ : ∃ z : Int32, z = v3 + (1 : Int32) := ⟨_, rfl⟩
          have h := h x23 ex23
          refine g_iinc X (L' := [(3, .int x23), (0, .ref (base + 41)), (1, .int v1)]) (k := 2) dMO_lay_312 rfl (v := x23) (by rw [ex23]; rfl) (Nat.le_of_ble_eq_true rfl) rfl ?_
          refine g_goto X dMO_lay_315 ?_
          refine g_sub (L' := [(0, .ref (base + 41)), (1, .int v1), (3, .int x23)]) [1, 2, 0] rfl ?_
          exact ih v1 x23 M h
  have r_210 : ∀ (k159 : Int32 → Int32 → gMem → Prop) (hk159 : ∀ (v1 : Int32) (v3 : Int32) (M : gMem), k159 v1 v3 M → GMx D ta base p l e 2 46 s m [.ref (base + 41)] below meth c (gPi post) 5 159 [(0, .ref (base + 41)), (1, .int v1), (3, .int v3)] [] M) (v1 : Int32) (v3 : Int32) (v4 : Int32) (s0 : Int32) (s1 : Int32) (M : gMem), wj_MO_lay_210 post k159 v1 v3 v4 s0 s1 M → GMx D ta base p l e 2 46 s m [.ref (base + 41)] below meth c (gPi post) 5 210 [(0, .ref (base + 41)), (1, .int v1), (3, .int v3), (4, .int v4)] [.int s0, .int s1, .ref (base + 67)] M := by
    intro k159 hk159 v1 v3 v4 s0 s1 M h
    unfold wj_MO_lay_210 at h
    obtain ⟨hi, h⟩ := h
    refine g_iast X hK.1 ly_67 hi dMO_lay_210 ?_
    refine g_topM (fun M24 eM24 => ?_)
    have h := h M24 eM24
    refine g_aload_n X dMO_lay_211 rfl 0 rfl ?_
    refine g_dup X dMO_lay_212 rfl ?_
    refine g_geti X hK.1 fw_MO_195 ly_41 rfl dMO_lay_213 ?_
    refine g_iload X dMO_lay_216 3 rfl ?_
    refine g_if_eq X dMO_lay_218 (fun c => ?_) (fun c => ?_)
    · have h := h.1 c
      refine g_iconst X (v := (0 : Int32)) dMO_lay_225 (by decide) ?_
      refine g_iadd X dMO_lay_226 ?_
      refine g_puti X hK.1 fw_MO_195 pw_MO_40 ly_41 rfl dMO_lay_227 ?_
      refine g_topM (fun M25 eM25 => ?_)
      have h := h M25 eM25
      obtain ⟨x26, ex26⟩ : ∃ z : Int32, z = v3 + (1 : Int32) := ⟨_, rfl⟩
      have h := h x26 ex26
      refine g_iinc X (L' := [(3, .int x26), (0, .ref (base + 41)), (1, .int v1), (4, .int v4)]) (k := 2) dMO_lay_230 rfl (v := x26) (by rw [ex26]; rfl) (Nat.le_of_ble_eq_true rfl) rfl ?_
      refine g_goto X dMO_lay_233 ?_
      refine g_sub (L' := [(0, .ref (base + 41)), (1, .int v1), (3, .int x26)]) [1, 2, 0] rfl ?_
      exact hk159 v1 x26 M25 h
    · have h := h.2 c
      refine g_iconst X (v := (1 : Int32)) dMO_lay_221 (by decide) ?_
      refine g_goto X dMO_lay_222 ?_
      refine g_iadd X dMO_lay_226 ?_
      refine g_puti X hK.1 fw_MO_195 pw_MO_40 ly_41 rfl dMO_lay_227 ?_
      refine g_topM (fun M27 eM27 => ?_)
      have h := h M27 eM27
      obtain ⟨x28, ex28⟩ : ∃ z : Int32, z = v3 + (1 : Int32) := ⟨_, rfl⟩
      have h := h x28 ex28
      refine g_iinc X (L' := [(3, .int x28), (0, .ref (base + 41)), (1, .int v1), (4, .int v4)]) (k := 2) dMO_lay_230 rfl (v := x28) (by rw [ex28]; rfl) (Nat.le_of_ble_eq_true rfl) rfl ?_
      refine g_goto X dMO_lay_233 ?_
      refine g_sub (L' := [(0, .ref (base + 41)), (1, .int v1), (3, .int x28)]) [1, 2, 0] rfl ?_
      exact hk159 v1 x28 M27 h
  have r_190 : ∀ (k159 : Int32 → Int32 → gMem → Prop) (hk159 : ∀ (v1 : Int32) (v3 : Int32) (M : gMem), k159 v1 v3 M → GMx D ta base p l e 2 46 s m [.ref (base + 41)] below meth c (gPi post) 5 159 [(0, .ref (base + 41)), (1, .int v1), (3, .int v3)] [] M) (v1 : Int32) (v3 : Int32) (s0 : Int32) (M : gMem), wj_MO_lay_190 post k159 v1 v3 s0 M → GMx D ta base p l e 2 46 s m [.ref (base + 41)] below meth c (gPi post) 5 190 [(0, .ref (base + 41)), (1, .int v1), (3, .int v3)] [.int s0] M := by
    intro k159 hk159 v1 v3 s0 M h
    unfold wj_MO_lay_190 at h
    refine g_istore X (L' := [(4, .int s0), (0, .ref (base + 41)), (1, .int v1), (3, .int v3)]) dMO_lay_190 (Nat.le_of_ble_eq_true rfl) rfl ?_
    refine g_aload_n X dMO_lay_192 rfl 1 rfl ?_
    refine g_getr X hK.1 fw_MO_89 ly_41 rfl dMO_lay_193 ?_
    refine g_iload_n X dMO_lay_196 rfl 3 rfl ?_
    refine g_iload X dMO_lay_197 0 rfl ?_
    refine g_if_eq X dMO_lay_199 (fun c => ?_) (fun c => ?_)
    · have h := h.1 c
      refine g_iconst X (v := (0 : Int32)) dMO_lay_209 (by decide) ?_
      refine g_sub (L' := [(0, .ref (base + 41)), (1, .int v1), (3, .int v3), (4, .int s0)]) [1, 2, 3, 0] rfl ?_
      exact r_210 _ hk159 v1 v3 s0 (0 : Int32) v3 M h
    · have h := h.2 c
      refine g_aload_n X dMO_lay_202 rfl 1 rfl ?_
      refine g_geti X hK.1 fw_MO_195 ly_41 rfl dMO_lay_203 ?_
      refine g_goto X dMO_lay_206 ?_
      refine g_sub (L' := [(0, .ref (base + 41)), (1, .int v1), (3, .int v3), (4, .int s0)]) [1, 2, 3, 0] rfl ?_
      exact r_210 _ hk159 v1 v3 s0 (M 41 40) v3 M h
  have r_185 : ∀ (k159 : Int32 → Int32 → gMem → Prop) (hk159 : ∀ (v1 : Int32) (v3 : Int32) (M : gMem), k159 v1 v3 M → GMx D ta base p l e 2 46 s m [.ref (base + 41)] below meth c (gPi post) 5 159 [(0, .ref (base + 41)), (1, .int v1), (3, .int v3)] [] M) (v1 : Int32) (v3 : Int32) (M : gMem), wj_MO_lay_185 post k159 v1 v3 M → GMx D ta base p l e 2 46 s m [.ref (base + 41)] below meth c (gPi post) 5 185 [(0, .ref (base + 41)), (1, .int v1), (3, .int v3)] [] M := by
    intro k159 hk159 v1 v3 M h
    unfold wj_MO_lay_185 at h
    refine g_iconst X (v := (1 : Int32)) dMO_lay_185 (by decide) ?_
    refine g_goto X dMO_lay_186 ?_
    exact r_190 _ hk159 v1 v3 (1 : Int32) M h
  have r_159 : ∀ (n : Nat) (v1 : Int32) (v3 : Int32) (M : gMem), wl_MO_lay_159 post n v1 v3 M → GMx D ta base p l e 2 46 s m [.ref (base + 41)] below meth c (gPi post) 5 159 [(0, .ref (base + 41)), (1, .int v1), (3, .int v3)] [] M := by
    intro n
    induction n with
    | zero => exact fun _ _ M h => h.elim
    | succ n ih =>
      intro v1 v3 M h
      refine g_iload_n X dMO_lay_159 rfl 2 rfl ?_
      refine g_bipush X (v := (11 : Int32)) dMO_lay_160 (by decide) ?_
      refine g_icmp_ge X dMO_lay_162 (fun c => ?_) (fun c => ?_)
      · have h := h.1 c
        refine g_aload_n X dMO_lay_236 rfl 0 rfl ?_
        refine g_getr X hK.1 fw_MO_86 ly_41 rfl dMO_lay_237 ?_
        refine g_bipush X (v := (10 : Int32)) dMO_lay_240 (by decide) ?_
        refine g_aload_n X dMO_lay_242 rfl 0 rfl ?_
        refine g_callV X hK gTs_ok ly_41 rfl mw_MO_sizeOfTitles tw_1159 mi_MO_sizeOfTitles ms_MO_sizeOfTitles (As := []) rfl ⟨(Nat.le_of_ble_eq_true rfl), (Nat.le_of_ble_eq_true rfl), Nat.le_refl _, Nat.le_refl _⟩ (m_MO_sizeOfTitles h) (rest := [.int (10 : Int32), .ref (base + 66)]) rfl (Nat.le_of_ble_eq_true rfl) dMO_lay_243 (gk_i (fun r11 M12 h => ?_))
        obtain ⟨hi, h⟩ := h
        refine g_iast X hK.1 ly_66 hi dMO_lay_246 ?_
        refine g_topM (fun M13 eM13 => ?_)
        have h := h M13 eM13
        refine g_iconst X (v := (4 : Int32)) dMO_lay_247 (by decide) ?_
        refine g_istore_n X (L' := [(3, .int (4 : Int32)), (0, .ref (base + 41)), (1, .int v1)]) dMO_lay_248 rfl (Nat.le_of_ble_eq_true rfl) rfl ?_
        refine g_sub (L' := [(0, .ref (base + 41)), (1, .int v1), (3, .int (4 : Int32))]) [1, 2, 0] rfl ?_
        obtain ⟨n9, h⟩ := h
        exact r_249 n9 v1 (4 : Int32) M13 h
      · have h := h.2 c
        refine g_iload_n X dMO_lay_165 rfl 2 rfl ?_
        refine g_iconst X (v := (4 : Int32)) dMO_lay_166 (by decide) ?_
        refine g_icmp_lt X dMO_lay_167 (fun c => ?_) (fun c => ?_)
        · have h := h.1 c
          exact r_185 _ (ih) v1 v3 M h
        · have h := h.2 c
          refine g_iload_n X dMO_lay_170 rfl 2 rfl ?_
          refine g_bipush X (v := (8 : Int32)) dMO_lay_171 (by decide) ?_
          refine g_icmp_ge X dMO_lay_173 (fun c => ?_) (fun c => ?_)
          · have h := h.1 c
            exact r_185 _ (ih) v1 v3 M h
          · have h := h.2 c
            refine g_aload_n X dMO_lay_176 rfl 0 rfl ?_
            refine g_getr X hK.1 fw_MO_86 ly_41 rfl dMO_lay_177 ?_
            refine g_iload_n X dMO_lay_180 rfl 2 rfl ?_
            obtain ⟨hi, h⟩ := h
            refine g_iald X hK.1 ly_66 hi dMO_lay_181 ?_
            refine g_if_le X dMO_lay_182 (fun c => ?_) (fun c => ?_)
            · have h := h.1 c
              refine g_iconst X (v := (0 : Int32)) dMO_lay_189 (by decide) ?_
              exact r_190 _ (ih) v1 v3 (0 : Int32) M h
            · have h := h.2 c
              exact r_185 _ (ih) v1 v3 M h
  have r_90 : ∀ (n : Nat) (v1 : Int32) (v2 : Int32) (M : gMem), wl_MO_lay_90 post n v1 v2 M → GMx D ta base p l e 2 46 s m [.ref (base + 41)] below meth c (gPi post) 5 90 [(0, .ref (base + 41)), (1, .int v1), (2, .int v2)] [] M := by
    intro n
    induction n with
    | zero => exact fun _ _ M h => h.elim
    | succ n ih =>
      intro v1 v2 M h
      refine g_iload_n X dMO_lay_90 rfl 2 rfl ?_
      refine g_iconst X (v := (3 : Int32)) dMO_lay_91 (by decide) ?_
      refine g_icmp_ge X dMO_lay_92 (fun c => ?_) (fun c => ?_)
      · have h := h.1 c
        refine g_aload_n X dMO_lay_117 rfl 0 rfl ?_
        refine g_getr X hK.1 fw_MO_86 ly_41 rfl dMO_lay_118 ?_
        refine g_bipush X (v := (8 : Int32)) dMO_lay_121 (by decide) ?_
        refine g_bipush X (v := (16 : Int32)) dMO_lay_123 (by decide) ?_
        refine g_bipush X (v := (16 : Int32)) dMO_lay_125 (by decide) ?_
        refine g_aload_n X dMO_lay_127 rfl 0 rfl ?_
        refine g_getr X hK.1 fw_MO_46 ly_41 rfl dMO_lay_128 ?_
        refine g_iconst X (v := (0 : Int32)) dMO_lay_131 (by decide) ?_
        obtain ⟨hi, h⟩ := h
        refine g_iald X hK.1 ly_54 hi dMO_lay_132 ?_
        refine g_imul X dMO_lay_133 ?_
        refine g_iadd X dMO_lay_134 ?_
        obtain ⟨hi, h⟩ := h
        refine g_iast X hK.1 ly_66 hi dMO_lay_135 ?_
        refine g_topM (fun M4 eM4 => ?_)
        have h := h M4 eM4
        refine g_aload_n X dMO_lay_136 rfl 0 rfl ?_
        refine g_callV X hK gTs_ok ly_41 rfl mw_MO_order tw_1143 mi_MO_order ms_MO_order (As := []) rfl ⟨(Nat.le_of_ble_eq_true rfl), (Nat.le_of_ble_eq_true rfl), Nat.le_refl _, Nat.le_refl _⟩ (m_MO_order h) (rest := []) rfl (Nat.le_of_ble_eq_true rfl) dMO_lay_137 (gk_i (fun r5 M6 h => ?_))
        refine g_istore_n X (L' := [(2, .int r5), (0, .ref (base + 41)), (1, .int v1)]) dMO_lay_140 rfl (Nat.le_of_ble_eq_true rfl) rfl ?_
        refine g_aload_n X dMO_lay_141 rfl 1 rfl ?_
        refine g_getr X hK.1 fw_MO_86 ly_41 rfl dMO_lay_142 ?_
        refine g_bipush X (v := (9 : Int32)) dMO_lay_145 (by decide) ?_
        refine g_aload_n X dMO_lay_147 rfl 1 rfl ?_
        refine g_callV X hK gTs_ok ly_41 rfl mw_MO_sizeOfSymbolNames tw_1147 mi_MO_sizeOfSymbolNames ms_MO_sizeOfSymbolNames (As := []) rfl ⟨(Nat.le_of_ble_eq_true rfl), (Nat.le_of_ble_eq_true rfl), Nat.le_refl _, Nat.le_refl _⟩ (m_MO_sizeOfSymbolNames h) (rest := [.int (9 : Int32), .ref (base + 66)]) rfl (Nat.le_of_ble_eq_true rfl) dMO_lay_148 (gk_i (fun r7 M8 h => ?_))
        obtain ⟨hi, h⟩ := h
        refine g_iast X hK.1 ly_66 hi dMO_lay_151 ?_
        refine g_topM (fun M9 eM9 => ?_)
        have h := h M9 eM9
        refine g_aload_n X dMO_lay_152 rfl 1 rfl ?_
        refine g_iconst X (v := (1 : Int32)) dMO_lay_153 (by decide) ?_
        refine g_puti X hK.1 fw_MO_195 pw_MO_40 ly_41 rfl dMO_lay_154 ?_
        refine g_topM (fun M10 eM10 => ?_)
        have h := h M10 eM10
        refine g_iconst X (v := (0 : Int32)) dMO_lay_157 (by decide) ?_
        refine g_istore_n X (L' := [(3, .int (0 : Int32)), (2, .int r5), (0, .ref (base + 41)), (1, .int v1)]) dMO_lay_158 rfl (Nat.le_of_ble_eq_true rfl) rfl ?_
        refine g_sub (L' := [(0, .ref (base + 41)), (1, .int v1), (3, .int (0 : Int32))]) [2, 3, 0] rfl ?_
        obtain ⟨n9, h⟩ := h
        exact r_159 n9 v1 (0 : Int32) M10 h
      · have h := h.2 c
        refine g_aload_n X dMO_lay_95 rfl 0 rfl ?_
        refine g_getr X hK.1 fw_MO_86 ly_41 rfl dMO_lay_96 ?_
        refine g_iconst X (v := (5 : Int32)) dMO_lay_99 (by decide) ?_
        refine g_iload_n X dMO_lay_100 rfl 2 rfl ?_
        refine g_iadd X dMO_lay_101 ?_
        refine g_bipush X (v := (12 : Int32)) dMO_lay_102 (by decide) ?_
        refine g_aload_n X dMO_lay_104 rfl 0 rfl ?_
        refine g_iload_n X dMO_lay_105 rfl 2 rfl ?_
        refine g_callV X hK gTs_ok ly_41 rfl mw_MO_relocationsOf tw_1139 mi_MO_relocationsOf ms_MO_relocationsOf (As := [.int v2]) rfl ⟨(Nat.le_of_ble_eq_true rfl), (Nat.le_of_ble_eq_true rfl), Nat.le_refl _, Nat.le_refl _⟩ (m_MO_relocationsOf h) (rest := [.int (12 : Int32), .int ((5 : Int32) + v2), .ref (base + 66)]) rfl (Nat.le_of_ble_eq_true rfl) dMO_lay_106 (gk_i (fun r29 M30 h => ?_))
        refine g_imul X dMO_lay_109 ?_
        obtain ⟨hi, h⟩ := h
        refine g_iast X hK.1 ly_66 hi dMO_lay_110 ?_
        refine g_topM (fun M31 eM31 => ?_)
        have h := h M31 eM31
        obtain ⟨x32, ex32⟩ : ∃ z : Int32, z = v2 + (1 : Int32) := ⟨_, rfl⟩
        have h := h x32 ex32
        refine g_iinc X (L' := [(2, .int x32), (0, .ref (base + 41)), (1, .int v1)]) (k := 2) dMO_lay_111 rfl (v := x32) (by rw [ex32]; rfl) (Nat.le_of_ble_eq_true rfl) rfl ?_
        refine g_goto X dMO_lay_114 ?_
        refine g_sub (L' := [(0, .ref (base + 41)), (1, .int v1), (2, .int x32)]) [1, 2, 0] rfl ?_
        exact ih v1 x32 M31 h
  have r_5 : ∀ (n : Nat) (v1 : Int32) (v2 : Int32) (M : gMem), wl_MO_lay_5 post n v1 v2 M → GMx D ta base p l e 2 46 s m [.ref (base + 41)] below meth c (gPi post) 5 5 [(0, .ref (base + 41)), (1, .int v1), (2, .int v2)] [] M := by
    intro n
    induction n with
    | zero => exact fun _ _ M h => h.elim
    | succ n ih =>
      intro v1 v2 M h
      refine g_iload_n X dMO_lay_5 rfl 2 rfl ?_
      refine g_iconst X (v := (3 : Int32)) dMO_lay_6 (by decide) ?_
      refine g_icmp_ge X dMO_lay_7 (fun c => ?_) (fun c => ?_)
      · have h := h.1 c
        refine g_aload_n X dMO_lay_55 rfl 0 rfl ?_
        refine g_getr X hK.1 fw_MO_83 ly_41 rfl dMO_lay_56 ?_
        refine g_iconst X (v := (3 : Int32)) dMO_lay_59 (by decide) ?_
        refine g_iload_n X dMO_lay_60 rfl 1 rfl ?_
        obtain ⟨hi, h⟩ := h
        refine g_iast X hK.1 ly_65 hi dMO_lay_61 ?_
        refine g_topM (fun M1 eM1 => ?_)
        have h := h M1 eM1
        refine g_aload_n X dMO_lay_62 rfl 0 rfl ?_
        refine g_getr X hK.1 fw_MO_86 ly_41 rfl dMO_lay_63 ?_
        refine g_iconst X (v := (3 : Int32)) dMO_lay_66 (by decide) ?_
        refine g_aload_n X dMO_lay_67 rfl 0 rfl ?_
        refine g_getr X hK.1 fw_MO_13 ly_41 rfl dMO_lay_68 ?_
        refine g_iconst X (v := (3 : Int32)) dMO_lay_71 (by decide) ?_
        obtain ⟨hi, h⟩ := h
        refine g_iald X hK.1 ly_43 hi dMO_lay_72 ?_
        obtain ⟨hi, h⟩ := h
        refine g_iast X hK.1 ly_66 hi dMO_lay_73 ?_
        refine g_topM (fun M2 eM2 => ?_)
        have h := h M2 eM2
        refine g_aload_n X dMO_lay_74 rfl 0 rfl ?_
        refine g_getr X hK.1 fw_MO_86 ly_41 rfl dMO_lay_75 ?_
        refine g_iconst X (v := (4 : Int32)) dMO_lay_78 (by decide) ?_
        refine g_iconst X (v := (2 : Int32)) dMO_lay_79 (by decide) ?_
        refine g_aload_n X dMO_lay_80 rfl 0 rfl ?_
        refine g_getr X hK.1 fw_MO_22 ly_41 rfl dMO_lay_81 ?_
        refine g_iconst X (v := (0 : Int32)) dMO_lay_84 (by decide) ?_
        obtain ⟨hi, h⟩ := h
        refine g_iald X hK.1 ly_46 hi dMO_lay_85 ?_
        refine g_imul X dMO_lay_86 ?_
        obtain ⟨hi, h⟩ := h
        refine g_iast X hK.1 ly_66 hi dMO_lay_87 ?_
        refine g_topM (fun M3 eM3 => ?_)
        have h := h M3 eM3
        refine g_iconst X (v := (0 : Int32)) dMO_lay_88 (by decide) ?_
        refine g_istore_n X (L' := [(2, .int (0 : Int32)), (0, .ref (base + 41)), (1, .int v1)]) dMO_lay_89 rfl (Nat.le_of_ble_eq_true rfl) rfl ?_
        refine g_sub (L' := [(0, .ref (base + 41)), (1, .int v1), (2, .int (0 : Int32))]) [1, 2, 0] rfl ?_
        obtain ⟨n9, h⟩ := h
        exact r_90 n9 v1 (0 : Int32) M3 h
      · have h := h.2 c
        refine g_iload_n X dMO_lay_10 rfl 1 rfl ?_
        refine g_aload_n X dMO_lay_11 rfl 0 rfl ?_
        refine g_getr X hK.1 fw_MO_16 ly_41 rfl dMO_lay_12 ?_
        refine g_iload_n X dMO_lay_15 rfl 2 rfl ?_
        obtain ⟨hi, h⟩ := h
        refine g_iald X hK.1 ly_44 hi dMO_lay_16 ?_
        refine g_callS X hK gTs_ok mw_MO_roundUp tw_1136 mt_MO_roundUp (As := [.int v1, .int (M 44 (v2).toNatClampNeg)]) rfl ⟨(Nat.le_of_ble_eq_true rfl), (Nat.le_of_ble_eq_true rfl), Nat.le_refl _, Nat.le_refl _⟩ (m_MO_roundUp h) (rest := []) rfl (Nat.le_of_ble_eq_true rfl) dMO_lay_17 (gk_i (fun r33 M34 h => ?_))
        refine g_istore_n X (L' := [(1, .int r33), (0, .ref (base + 41)), (2, .int v2)]) dMO_lay_20 rfl (Nat.le_of_ble_eq_true rfl) rfl ?_
        refine g_aload_n X dMO_lay_21 rfl 1 rfl ?_
        refine g_getr X hK.1 fw_MO_83 ly_41 rfl dMO_lay_22 ?_
        refine g_iload_n X dMO_lay_25 rfl 2 rfl ?_
        refine g_iload_n X dMO_lay_26 rfl 0 rfl ?_
        obtain ⟨hi, h⟩ := h
        refine g_iast X hK.1 ly_65 hi dMO_lay_27 ?_
        refine g_topM (fun M35 eM35 => ?_)
        have h := h M35 eM35
        refine g_aload_n X dMO_lay_28 rfl 1 rfl ?_
        refine g_getr X hK.1 fw_MO_86 ly_41 rfl dMO_lay_29 ?_
        refine g_iload_n X dMO_lay_32 rfl 2 rfl ?_
        refine g_aload_n X dMO_lay_33 rfl 1 rfl ?_
        refine g_getr X hK.1 fw_MO_13 ly_41 rfl dMO_lay_34 ?_
        refine g_iload_n X dMO_lay_37 rfl 2 rfl ?_
        obtain ⟨hi, h⟩ := h
        refine g_iald X hK.1 ly_43 hi dMO_lay_38 ?_
        obtain ⟨hi, h⟩ := h
        refine g_iast X hK.1 ly_66 hi dMO_lay_39 ?_
        refine g_topM (fun M36 eM36 => ?_)
        have h := h M36 eM36
        refine g_iload_n X dMO_lay_40 rfl 0 rfl ?_
        refine g_aload_n X dMO_lay_41 rfl 1 rfl ?_
        refine g_getr X hK.1 fw_MO_13 ly_41 rfl dMO_lay_42 ?_
        refine g_iload_n X dMO_lay_45 rfl 2 rfl ?_
        obtain ⟨hi, h⟩ := h
        refine g_iald X hK.1 ly_43 hi dMO_lay_46 ?_
        refine g_iadd X dMO_lay_47 ?_
        refine g_topi (fun x37 ex37 => ?_)
        have h := h x37 ex37
        refine g_istore_n X (L' := [(1, .int x37), (0, .ref (base + 41)), (2, .int v2)]) dMO_lay_48 rfl (Nat.le_of_ble_eq_true rfl) rfl ?_
        obtain ⟨x38, ex38⟩ : ∃ z : Int32, z = v2 + (1 : Int32) := ⟨_, rfl⟩
        have h := h x38 ex38
        refine g_iinc X (L' := [(2, .int x38), (1, .int x37), (0, .ref (base + 41))]) (k := 2) dMO_lay_49 rfl (v := x38) (by rw [ex38]; rfl) (Nat.le_of_ble_eq_true rfl) rfl ?_
        refine g_goto X dMO_lay_52 ?_
        refine g_sub (L' := [(0, .ref (base + 41)), (1, .int x37), (2, .int x38)]) [2, 1, 0] rfl ?_
        exact ih x37 x38 M36 h
  refine g_args (L' := [(0, .ref (base + 41))]) rfl ?_
  unfold wp_MO_lay at h
  refine g_bipush X (v := (52 : Int32)) dMO_lay_0 (by decide) ?_
  refine g_istore_n X (L' := [(1, .int (52 : Int32)), (0, .ref (base + 41))]) dMO_lay_2 rfl (Nat.le_of_ble_eq_true rfl) rfl ?_
  refine g_iconst X (v := (0 : Int32)) dMO_lay_3 (by decide) ?_
  refine g_istore_n X (L' := [(2, .int (0 : Int32)), (1, .int (52 : Int32)), (0, .ref (base + 41))]) dMO_lay_4 rfl (Nat.le_of_ble_eq_true rfl) rfl ?_
  refine g_sub (L' := [(0, .ref (base + 41)), (1, .int (52 : Int32)), (2, .int (0 : Int32))]) [2, 1, 0] rfl ?_
  obtain ⟨n9, h⟩ := h
  exact r_5 n9 (52 : Int32) (0 : Int32) M h
set_option maxRecDepth 100000 in
set_option maxHeartbeats 4000000 in
theorem m_MO_write1 {l : Launch} {D : va_G} {ta : Nat → ClassId} {base : Nat} {sa : Nat → Nat} {post : gMem → Prop} {a0 : Int32} {a1 : Int32} {M : gMem} (h : wp_MO_write1 post a0 a1 M) : GC gLay gCl D ta base gNw sa gTabs gTs l y_MO_write1 b_MO_write1 3 none 0 0 [.ref (base + 41), .int a0, .int a1] M (gPv post) := by
  refine GC.of (own := "ObjectFileModel") pn_MO rfl (Nat.le_of_ble_eq_true rfl) ?_
  intro p e s m below meth c X hK hr hlk
  refine g_args (L' := [(0, .ref (base + 41)), (1, .int a0), (2, .int a1)]) rfl ?_
  unfold wp_MO_write1 at h
  refine g_aload_n X dMO_write1_0 rfl 0 rfl ?_
  refine g_getr X hK.1 fw_MO_70 ly_41 rfl dMO_write1_1 ?_
  refine g_iload_n X dMO_write1_4 rfl 1 rfl ?_
  refine g_iload_n X dMO_write1_5 rfl 2 rfl ?_
  refine g_sipush X (v := (255 : Int32)) dMO_write1_6 (by decide) ?_
  refine g_iand X dMO_write1_9 ?_
  obtain ⟨hi, h⟩ := h
  refine g_iast X hK.1 ly_62 hi dMO_write1_10 ?_
  refine g_topM (fun M1 eM1 => ?_)
  have h := h M1 eM1
  exact g_vret X hr hlk dMO_write1_11 ⟨rfl, h⟩
set_option maxRecDepth 100000 in
set_option maxHeartbeats 4000000 in
theorem m_MO_write2 {l : Launch} {D : va_G} {ta : Nat → ClassId} {base : Nat} {sa : Nat → Nat} {post : gMem → Prop} {a0 : Int32} {a1 : Int32} {M : gMem} (h : wp_MO_write2 post a0 a1 M) : GC gLay gCl D ta base gNw sa gTabs gTs l y_MO_write2 b_MO_write2 3 none 1 22 [.ref (base + 41), .int a0, .int a1] M (gPv post) := by
  refine GC.of (own := "ObjectFileModel") pn_MO rfl (Nat.le_of_ble_eq_true rfl) ?_
  intro p e s m below meth c X hK hr hlk
  refine g_args (L' := [(0, .ref (base + 41)), (1, .int a0), (2, .int a1)]) rfl ?_
  unfold wp_MO_write2 at h
  refine g_aload_n X dMO_write2_0 rfl 0 rfl ?_
  refine g_iload_n X dMO_write2_1 rfl 1 rfl ?_
  refine g_iload_n X dMO_write2_2 rfl 2 rfl ?_
  refine g_callV X hK gTs_ok ly_41 rfl mw_MO_write1 tw_1180 mi_MO_write1 ms_MO_write1 (As := [.int a0, .int a1]) rfl ⟨(Nat.le_of_ble_eq_true rfl), (Nat.le_of_ble_eq_true rfl), Nat.le_refl _, Nat.le_refl _⟩ (m_MO_write1 h) (rest := []) rfl (Nat.le_of_ble_eq_true rfl) dMO_write2_3 (gk_v (fun M2 h => ?_))
  refine g_aload_n X dMO_write2_6 rfl 0 rfl ?_
  refine g_iload_n X dMO_write2_7 rfl 1 rfl ?_
  refine g_iconst X (v := (1 : Int32)) dMO_write2_8 (by decide) ?_
  refine g_iadd X dMO_write2_9 ?_
  refine g_iload_n X dMO_write2_10 rfl 2 rfl ?_
  refine g_bipush X (v := (8 : Int32)) dMO_write2_11 (by decide) ?_
  refine g_ishr X dMO_write2_13 ?_
  refine g_callV X hK gTs_ok ly_41 rfl mw_MO_write1 tw_1180 mi_MO_write1 ms_MO_write1 (As := [.int (a0 + (1 : Int32)), .int (a1 >>> ((8 : Int32) &&& 31))]) rfl ⟨(Nat.le_of_ble_eq_true rfl), (Nat.le_of_ble_eq_true rfl), Nat.le_refl _, Nat.le_refl _⟩ (m_MO_write1 h) (rest := []) rfl (Nat.le_of_ble_eq_true rfl) dMO_write2_14 (gk_v (fun M4 h => ?_))
  exact g_vret X hr hlk dMO_write2_17 ⟨rfl, h⟩
set_option maxRecDepth 100000 in
set_option maxHeartbeats 4000000 in
theorem m_MO_write4 {l : Launch} {D : va_G} {ta : Nat → ClassId} {base : Nat} {sa : Nat → Nat} {post : gMem → Prop} {a0 : Int32} {a1 : Int32} {M : gMem} (h : wp_MO_write4 post a0 a1 M) : GC gLay gCl D ta base gNw sa gTabs gTs l y_MO_write4 b_MO_write4 3 none 2 44 [.ref (base + 41), .int a0, .int a1] M (gPv post) := by
  refine GC.of (own := "ObjectFileModel") pn_MO rfl (Nat.le_of_ble_eq_true rfl) ?_
  intro p e s m below meth c X hK hr hlk
  refine g_args (L' := [(0, .ref (base + 41)), (1, .int a0), (2, .int a1)]) rfl ?_
  unfold wp_MO_write4 at h
  refine g_aload_n X dMO_write4_0 rfl 0 rfl ?_
  refine g_iload_n X dMO_write4_1 rfl 1 rfl ?_
  refine g_iload_n X dMO_write4_2 rfl 2 rfl ?_
  refine g_callV X hK gTs_ok ly_41 rfl mw_MO_write2 tw_1176 mi_MO_write2 ms_MO_write2 (As := [.int a0, .int a1]) rfl ⟨(Nat.le_of_ble_eq_true rfl), (Nat.le_of_ble_eq_true rfl), Nat.le_refl _, Nat.le_refl _⟩ (m_MO_write2 h) (rest := []) rfl (Nat.le_of_ble_eq_true rfl) dMO_write4_3 (gk_v (fun M2 h => ?_))
  refine g_aload_n X dMO_write4_6 rfl 0 rfl ?_
  refine g_iload_n X dMO_write4_7 rfl 1 rfl ?_
  refine g_iconst X (v := (2 : Int32)) dMO_write4_8 (by decide) ?_
  refine g_iadd X dMO_write4_9 ?_
  refine g_iload_n X dMO_write4_10 rfl 2 rfl ?_
  refine g_bipush X (v := (16 : Int32)) dMO_write4_11 (by decide) ?_
  refine g_ishr X dMO_write4_13 ?_
  refine g_callV X hK gTs_ok ly_41 rfl mw_MO_write2 tw_1176 mi_MO_write2 ms_MO_write2 (As := [.int (a0 + (2 : Int32)), .int (a1 >>> ((16 : Int32) &&& 31))]) rfl ⟨(Nat.le_of_ble_eq_true rfl), (Nat.le_of_ble_eq_true rfl), Nat.le_refl _, Nat.le_refl _⟩ (m_MO_write2 h) (rest := []) rfl (Nat.le_of_ble_eq_true rfl) dMO_write4_14 (gk_v (fun M4 h => ?_))
  exact g_vret X hr hlk dMO_write4_17 ⟨rfl, h⟩
set_option maxRecDepth 100000 in
set_option maxHeartbeats 4000000 in
theorem m_MO_isShort {l : Launch} {D : va_G} {ta : Nat → ClassId} {base : Nat} {sa : Nat → Nat} {post : Bool → gMem → Prop} {a0 : Int32} {M : gMem} (h : wp_MO_isShort post a0 M) : GC gLay gCl D ta base gNw sa gTabs gTs l y_MO_isShort b_MO_isShort 1 (some .boolean) 0 0 [.int a0] M (gPz post) := by
  refine GC.of (own := "ObjectFileModel") pn_MO rfl (Nat.le_of_ble_eq_true rfl) ?_
  intro p e s m below meth c X hK hr hlk
  refine g_args (L' := [(0, .int a0)]) rfl ?_
  unfold wp_MO_isShort at h
  refine g_iload_n X dMO_isShort_0 rfl 0 rfl ?_
  refine g_iconst X (v := (3 : Int32)) dMO_isShort_1 (by decide) ?_
  refine g_iand X dMO_isShort_2 ?_
  refine g_iconst X (v := (3 : Int32)) dMO_isShort_3 (by decide) ?_
  refine g_icmp_eq X dMO_isShort_4 (fun c => ?_) (fun c => ?_)
  · have h := h.1 c
    refine g_iconst X (v := (0 : Int32)) dMO_isShort_11 (by decide) ?_
    exact g_zret X hr hlk (by decide) dMO_isShort_12 ⟨false, rfl, h⟩
  · have h := h.2 c
    refine g_iconst X (v := (1 : Int32)) dMO_isShort_7 (by decide) ?_
    refine g_goto X dMO_isShort_8 ?_
    exact g_zret X hr hlk (by decide) dMO_isShort_12 ⟨true, rfl, h⟩
set_option maxRecDepth 100000 in
set_option maxHeartbeats 4000000 in
theorem m_MO_writeHead {l : Launch} {D : va_G} {ta : Nat → ClassId} {base : Nat} {sa : Nat → Nat} {post : gMem → Prop} {a0 : Int32} {M : gMem} (h : wp_MO_writeHead post a0 M) : GC gLay gCl D ta base gNw sa gTabs gTs l y_MO_writeHead b_MO_writeHead 4 none 3 66 [.ref (base + 41), .int a0] M (gPv post) := by
  refine GC.of (own := "ObjectFileModel") pn_MO rfl (Nat.le_of_ble_eq_true rfl) ?_
  intro p e s m below meth c X hK hr hlk
  have r_101 : ∀ (s0 : Int32) (s1 : Int32) (M : gMem), wj_MO_writeHead_101 post s0 s1 M → GMx D ta base p l e 3 66 s m [.ref (base + 41), .int a0] below meth c (gPv post) 4 101 [(0, .ref (base + 41))] [.int s0, .int s1, .ref (base + 41)] M := by
    intro s0 s1 M h
    unfold wj_MO_writeHead_101 at h
    refine g_callV X hK gTs_ok ly_41 rfl mw_MO_write4 tw_1172 mi_MO_write4 ms_MO_write4 (As := [.int s1, .int s0]) rfl ⟨(Nat.le_of_ble_eq_true rfl), (Nat.le_of_ble_eq_true rfl), Nat.le_refl _, Nat.le_refl _⟩ (m_MO_write4 h) (rest := []) rfl (Nat.le_of_ble_eq_true rfl) dMO_writeHead_101 (gk_v (fun M14 h => ?_))
    refine g_aload_n X dMO_writeHead_104 rfl 0 rfl ?_
    refine g_bipush X (v := (40 : Int32)) dMO_writeHead_105 (by decide) ?_
    refine g_bipush X (v := (52 : Int32)) dMO_writeHead_107 (by decide) ?_
    refine g_callV X hK gTs_ok ly_41 rfl mw_MO_write2 tw_1176 mi_MO_write2 ms_MO_write2 (As := [.int (40 : Int32), .int (52 : Int32)]) rfl ⟨(Nat.le_of_ble_eq_true rfl), (Nat.le_of_ble_eq_true rfl), Nat.le_refl _, Nat.le_refl _⟩ (m_MO_write2 h) (rest := []) rfl (Nat.le_of_ble_eq_true rfl) dMO_writeHead_109 (gk_v (fun M16 h => ?_))
    refine g_aload_n X dMO_writeHead_112 rfl 0 rfl ?_
    refine g_bipush X (v := (46 : Int32)) dMO_writeHead_113 (by decide) ?_
    refine g_bipush X (v := (40 : Int32)) dMO_writeHead_115 (by decide) ?_
    refine g_callV X hK gTs_ok ly_41 rfl mw_MO_write2 tw_1176 mi_MO_write2 ms_MO_write2 (As := [.int (46 : Int32), .int (40 : Int32)]) rfl ⟨(Nat.le_of_ble_eq_true rfl), (Nat.le_of_ble_eq_true rfl), Nat.le_refl _, Nat.le_refl _⟩ (m_MO_write2 h) (rest := []) rfl (Nat.le_of_ble_eq_true rfl) dMO_writeHead_117 (gk_v (fun M18 h => ?_))
    refine g_aload_n X dMO_writeHead_120 rfl 0 rfl ?_
    refine g_bipush X (v := (48 : Int32)) dMO_writeHead_121 (by decide) ?_
    refine g_aload_n X dMO_writeHead_123 rfl 0 rfl ?_
    refine g_geti X hK.1 fw_MO_195 ly_41 rfl dMO_writeHead_124 ?_
    refine g_callV X hK gTs_ok ly_41 rfl mw_MO_write2 tw_1176 mi_MO_write2 ms_MO_write2 (As := [.int (48 : Int32), .int (M18 41 40)]) rfl ⟨(Nat.le_of_ble_eq_true rfl), (Nat.le_of_ble_eq_true rfl), Nat.le_refl _, Nat.le_refl _⟩ (m_MO_write2 h) (rest := []) rfl (Nat.le_of_ble_eq_true rfl) dMO_writeHead_127 (gk_v (fun M20 h => ?_))
    refine g_aload_n X dMO_writeHead_130 rfl 0 rfl ?_
    refine g_bipush X (v := (50 : Int32)) dMO_writeHead_131 (by decide) ?_
    refine g_aload_n X dMO_writeHead_133 rfl 0 rfl ?_
    refine g_getr X hK.1 fw_MO_89 ly_41 rfl dMO_writeHead_134 ?_
    refine g_bipush X (v := (10 : Int32)) dMO_writeHead_137 (by decide) ?_
    obtain ⟨hi, h⟩ := h
    refine g_iald X hK.1 ly_67 hi dMO_writeHead_139 ?_
    refine g_callV X hK gTs_ok ly_41 rfl mw_MO_write2 tw_1176 mi_MO_write2 ms_MO_write2 (As := [.int (50 : Int32), .int (M20 67 ((10 : Int32)).toNatClampNeg)]) rfl ⟨(Nat.le_of_ble_eq_true rfl), (Nat.le_of_ble_eq_true rfl), Nat.le_refl _, Nat.le_refl _⟩ (m_MO_write2 h) (rest := []) rfl (Nat.le_of_ble_eq_true rfl) dMO_writeHead_140 (gk_v (fun M22 h => ?_))
    exact g_vret X hr hlk dMO_writeHead_143 ⟨rfl, h⟩
  have r_48 : ∀ (n : Nat) (v2 : Int32) (v3 : Int32) (M : gMem), wl_MO_writeHead_48 post n v2 v3 M → GMx D ta base p l e 3 66 s m [.ref (base + 41), .int a0] below meth c (gPv post) 4 48 [(0, .ref (base + 41)), (2, .int v2), (3, .int v3)] [] M := by
    intro n
    induction n with
    | zero => exact fun _ _ M h => h.elim
    | succ n ih =>
      intro v2 v3 M h
      refine g_iload_n X dMO_writeHead_48 rfl 2 rfl ?_
      refine g_aload_n X dMO_writeHead_49 rfl 0 rfl ?_
      refine g_getr X hK.1 fw_MO_22 ly_41 rfl dMO_writeHead_50 ?_
      refine g_iconst X (v := (0 : Int32)) dMO_writeHead_53 (by decide) ?_
      obtain ⟨hi, h⟩ := h
      refine g_iald X hK.1 ly_46 hi dMO_writeHead_54 ?_
      refine g_icmp_ge X dMO_writeHead_55 (fun c => ?_) (fun c => ?_)
      · have h := h.1 c
        refine g_aload_n X dMO_writeHead_89 rfl 0 rfl ?_
        refine g_bipush X (v := (36 : Int32)) dMO_writeHead_90 (by decide) ?_
        refine g_iload_n X dMO_writeHead_92 rfl 1 rfl ?_
        refine g_if_le X dMO_writeHead_93 (fun c => ?_) (fun c => ?_)
        · have h := h.1 c
          refine g_iconst X (v := (0 : Int32)) dMO_writeHead_100 (by decide) ?_
          refine g_sub (L' := [(0, .ref (base + 41))]) [0] rfl ?_
          exact r_101 (0 : Int32) (36 : Int32) M h
        · have h := h.2 c
          refine g_iconst X (v := (1 : Int32)) dMO_writeHead_96 (by decide) ?_
          refine g_goto X dMO_writeHead_97 ?_
          refine g_sub (L' := [(0, .ref (base + 41))]) [0] rfl ?_
          exact r_101 (1 : Int32) (36 : Int32) M h
      · have h := h.2 c
        refine g_iload_n X dMO_writeHead_58 rfl 1 rfl ?_
        refine g_aload_n X dMO_writeHead_59 rfl 0 rfl ?_
        refine g_getr X hK.1 fw_MO_7 ly_41 rfl dMO_writeHead_60 ?_
        refine g_aload_n X dMO_writeHead_63 rfl 0 rfl ?_
        refine g_getr X hK.1 fw_MO_19 ly_41 rfl dMO_writeHead_64 ?_
        refine g_iload_n X dMO_writeHead_67 rfl 2 rfl ?_
        obtain ⟨hi, h⟩ := h
        refine g_iald X hK.1 ly_45 hi dMO_writeHead_68 ?_
        obtain ⟨hi, h⟩ := h
        refine g_iald X hK.1 ly_42 hi dMO_writeHead_69 ?_
        refine g_callS X hK gTs_ok mw_MO_isShort tw_1185 mt_MO_isShort (As := [.int (M 42 (M 45 (v3).toNatClampNeg).toNatClampNeg)]) rfl ⟨(Nat.le_of_ble_eq_true rfl), (Nat.le_of_ble_eq_true rfl), Nat.le_refl _, Nat.le_refl _⟩ (m_MO_isShort h) (rest := [.int v2]) rfl (Nat.le_of_ble_eq_true rfl) dMO_writeHead_70 (gk_z (fun r23 M24 h => ?_))
        refine g_if_eq X dMO_writeHead_73 (fun c => ?_) (fun c => ?_)
        · have h := h.1 c
          refine g_iconst X (v := (0 : Int32)) dMO_writeHead_80 (by decide) ?_
          refine g_iadd X dMO_writeHead_81 ?_
          refine g_topi (fun x25 ex25 => ?_)
          have h := h x25 ex25
          refine g_istore_n X (L' := [(2, .int x25), (0, .ref (base + 41)), (3, .int v3)]) dMO_writeHead_82 rfl (Nat.le_of_ble_eq_true rfl) rfl ?_
          obtain ⟨x26, ex26⟩ : ∃ z : Int32, z = v3 + (1 : Int32) := ⟨_, rfl⟩
          have h := h x26 ex26
          refine g_iinc X (L' := [(3, .int x26), (2, .int x25), (0, .ref (base + 41))]) (k := 2) dMO_writeHead_83 rfl (v := x26) (by rw [ex26]; rfl) (Nat.le_of_ble_eq_true rfl) rfl ?_
          refine g_goto X dMO_writeHead_86 ?_
          refine g_sub (L' := [(0, .ref (base + 41)), (2, .int x25), (3, .int x26)]) [2, 1, 0] rfl ?_
          exact ih x25 x26 M24 h
        · have h := h.2 c
          refine g_iconst X (v := (1 : Int32)) dMO_writeHead_76 (by decide) ?_
          refine g_goto X dMO_writeHead_77 ?_
          refine g_iadd X dMO_writeHead_81 ?_
          refine g_topi (fun x27 ex27 => ?_)
          have h := h x27 ex27
          refine g_istore_n X (L' := [(2, .int x27), (0, .ref (base + 41)), (3, .int v3)]) dMO_writeHead_82 rfl (Nat.le_of_ble_eq_true rfl) rfl ?_
          obtain ⟨x28, ex28⟩ : ∃ z : Int32, z = v3 + (1 : Int32) := ⟨_, rfl⟩
          have h := h x28 ex28
          refine g_iinc X (L' := [(3, .int x28), (2, .int x27), (0, .ref (base + 41))]) (k := 2) dMO_writeHead_83 rfl (v := x28) (by rw [ex28]; rfl) (Nat.le_of_ble_eq_true rfl) rfl ?_
          refine g_goto X dMO_writeHead_86 ?_
          refine g_sub (L' := [(0, .ref (base + 41)), (2, .int x27), (3, .int x28)]) [2, 1, 0] rfl ?_
          exact ih x27 x28 M24 h
  refine g_args (L' := [(0, .ref (base + 41)), (1, .int a0)]) rfl ?_
  unfold wp_MO_writeHead at h
  refine g_aload_n X dMO_writeHead_0 rfl 0 rfl ?_
  refine g_iconst X (v := (0 : Int32)) dMO_writeHead_1 (by decide) ?_
  refine g_ldc X (v := (1179403647 : Int32)) (tw_1171) dMO_writeHead_2 ?_
  refine g_callV X hK gTs_ok ly_41 rfl mw_MO_write4 tw_1172 mi_MO_write4 ms_MO_write4 (As := [.int (0 : Int32), .int (1179403647 : Int32)]) rfl ⟨(Nat.le_of_ble_eq_true rfl), (Nat.le_of_ble_eq_true rfl), Nat.le_refl _, Nat.le_refl _⟩ (m_MO_write4 h) (rest := []) rfl (Nat.le_of_ble_eq_true rfl) dMO_writeHead_4 (gk_v (fun M2 h => ?_))
  refine g_aload_n X dMO_writeHead_7 rfl 0 rfl ?_
  refine g_iconst X (v := (4 : Int32)) dMO_writeHead_8 (by decide) ?_
  refine g_ldc X (v := (65793 : Int32)) (tw_1184) dMO_writeHead_9 ?_
  refine g_callV X hK gTs_ok ly_41 rfl mw_MO_write4 tw_1172 mi_MO_write4 ms_MO_write4 (As := [.int (4 : Int32), .int (65793 : Int32)]) rfl ⟨(Nat.le_of_ble_eq_true rfl), (Nat.le_of_ble_eq_true rfl), Nat.le_refl _, Nat.le_refl _⟩ (m_MO_write4 h) (rest := []) rfl (Nat.le_of_ble_eq_true rfl) dMO_writeHead_11 (gk_v (fun M4 h => ?_))
  refine g_aload_n X dMO_writeHead_14 rfl 0 rfl ?_
  refine g_bipush X (v := (16 : Int32)) dMO_writeHead_15 (by decide) ?_
  refine g_iconst X (v := (1 : Int32)) dMO_writeHead_17 (by decide) ?_
  refine g_callV X hK gTs_ok ly_41 rfl mw_MO_write2 tw_1176 mi_MO_write2 ms_MO_write2 (As := [.int (16 : Int32), .int (1 : Int32)]) rfl ⟨(Nat.le_of_ble_eq_true rfl), (Nat.le_of_ble_eq_true rfl), Nat.le_refl _, Nat.le_refl _⟩ (m_MO_write2 h) (rest := []) rfl (Nat.le_of_ble_eq_true rfl) dMO_writeHead_18 (gk_v (fun M6 h => ?_))
  refine g_aload_n X dMO_writeHead_21 rfl 0 rfl ?_
  refine g_bipush X (v := (18 : Int32)) dMO_writeHead_22 (by decide) ?_
  refine g_sipush X (v := (243 : Int32)) dMO_writeHead_24 (by decide) ?_
  refine g_callV X hK gTs_ok ly_41 rfl mw_MO_write2 tw_1176 mi_MO_write2 ms_MO_write2 (As := [.int (18 : Int32), .int (243 : Int32)]) rfl ⟨(Nat.le_of_ble_eq_true rfl), (Nat.le_of_ble_eq_true rfl), Nat.le_refl _, Nat.le_refl _⟩ (m_MO_write2 h) (rest := []) rfl (Nat.le_of_ble_eq_true rfl) dMO_writeHead_27 (gk_v (fun M8 h => ?_))
  refine g_aload_n X dMO_writeHead_30 rfl 0 rfl ?_
  refine g_bipush X (v := (20 : Int32)) dMO_writeHead_31 (by decide) ?_
  refine g_iconst X (v := (1 : Int32)) dMO_writeHead_33 (by decide) ?_
  refine g_callV X hK gTs_ok ly_41 rfl mw_MO_write4 tw_1172 mi_MO_write4 ms_MO_write4 (As := [.int (20 : Int32), .int (1 : Int32)]) rfl ⟨(Nat.le_of_ble_eq_true rfl), (Nat.le_of_ble_eq_true rfl), Nat.le_refl _, Nat.le_refl _⟩ (m_MO_write4 h) (rest := []) rfl (Nat.le_of_ble_eq_true rfl) dMO_writeHead_34 (gk_v (fun M10 h => ?_))
  refine g_aload_n X dMO_writeHead_37 rfl 0 rfl ?_
  refine g_bipush X (v := (32 : Int32)) dMO_writeHead_38 (by decide) ?_
  refine g_iload_n X dMO_writeHead_40 rfl 1 rfl ?_
  refine g_callV X hK gTs_ok ly_41 rfl mw_MO_write4 tw_1172 mi_MO_write4 ms_MO_write4 (As := [.int (32 : Int32), .int a0]) rfl ⟨(Nat.le_of_ble_eq_true rfl), (Nat.le_of_ble_eq_true rfl), Nat.le_refl _, Nat.le_refl _⟩ (m_MO_write4 h) (rest := []) rfl (Nat.le_of_ble_eq_true rfl) dMO_writeHead_41 (gk_v (fun M12 h => ?_))
  refine g_iconst X (v := (0 : Int32)) dMO_writeHead_44 (by decide) ?_
  refine g_istore_n X (L' := [(2, .int (0 : Int32)), (0, .ref (base + 41)), (1, .int a0)]) dMO_writeHead_45 rfl (Nat.le_of_ble_eq_true rfl) rfl ?_
  refine g_iconst X (v := (0 : Int32)) dMO_writeHead_46 (by decide) ?_
  refine g_istore_n X (L' := [(3, .int (0 : Int32)), (2, .int (0 : Int32)), (0, .ref (base + 41)), (1, .int a0)]) dMO_writeHead_47 rfl (Nat.le_of_ble_eq_true rfl) rfl ?_
  refine g_sub (L' := [(0, .ref (base + 41)), (2, .int (0 : Int32)), (3, .int (0 : Int32))]) [2, 1, 0] rfl ?_
  obtain ⟨n9, h⟩ := h
  exact r_48 n9 (0 : Int32) (0 : Int32) M12 h
set_option maxRecDepth 100000 in
set_option maxHeartbeats 4000000 in
theorem m_MO_writeSymbols {l : Launch} {D : va_G} {ta : Nat → ClassId} {base : Nat} {sa : Nat → Nat} {post : gMem → Prop} {M : gMem} (h : wp_MO_writeSymbols post M) : GC gLay gCl D ta base gNw sa gTabs gTs l y_MO_writeSymbols b_MO_writeSymbols 3 none 3 66 [.ref (base + 41)] M (gPv post) := by
  refine GC.of (own := "ObjectFileModel") pn_MO rfl (Nat.le_of_ble_eq_true rfl) ?_
  intro p e s m below meth c X hK hr hlk
  have r_2 : ∀ (n : Nat) (v1 : Int32) (M : gMem), wl_MO_writeSymbols_2 post n v1 M → GMx D ta base p l e 3 66 s m [.ref (base + 41)] below meth c (gPv post) 3 2 [(0, .ref (base + 41)), (1, .int v1)] [] M := by
    intro n
    induction n with
    | zero => exact fun _ M h => h.elim
    | succ n ih =>
      intro v1 M h
      refine g_iload_n X dMO_writeSymbols_2 rfl 1 rfl ?_
      refine g_aload_n X dMO_writeSymbols_3 rfl 0 rfl ?_
      refine g_getr X hK.1 fw_MO_46 ly_41 rfl dMO_writeSymbols_4 ?_
      refine g_iconst X (v := (0 : Int32)) dMO_writeSymbols_7 (by decide) ?_
      obtain ⟨hi, h⟩ := h
      refine g_iald X hK.1 ly_54 hi dMO_writeSymbols_8 ?_
      refine g_icmp_ge X dMO_writeSymbols_9 (fun c => ?_) (fun c => ?_)
      · have h := h.1 c
        exact g_vret X hr hlk dMO_writeSymbols_164 ⟨rfl, h⟩
      · have h := h.2 c
        refine g_aload_n X dMO_writeSymbols_12 rfl 0 rfl ?_
        refine g_getr X hK.1 fw_MO_83 ly_41 rfl dMO_writeSymbols_13 ?_
        refine g_bipush X (v := (8 : Int32)) dMO_writeSymbols_16 (by decide) ?_
        obtain ⟨hi, h⟩ := h
        refine g_iald X hK.1 ly_65 hi dMO_writeSymbols_18 ?_
        refine g_bipush X (v := (16 : Int32)) dMO_writeSymbols_19 (by decide) ?_
        refine g_iadd X dMO_writeSymbols_21 ?_
        refine g_bipush X (v := (16 : Int32)) dMO_writeSymbols_22 (by decide) ?_
        refine g_aload_n X dMO_writeSymbols_24 rfl 0 rfl ?_
        refine g_getr X hK.1 fw_MO_101 ly_41 rfl dMO_writeSymbols_25 ?_
        refine g_iload_n X dMO_writeSymbols_28 rfl 1 rfl ?_
        obtain ⟨hi, h⟩ := h
        refine g_iald X hK.1 ly_71 hi dMO_writeSymbols_29 ?_
        refine g_imul X dMO_writeSymbols_30 ?_
        refine g_iadd X dMO_writeSymbols_31 ?_
        refine g_topi (fun x1 ex1 => ?_)
        have h := h x1 ex1
        refine g_istore_n X (L' := [(2, .int x1), (0, .ref (base + 41)), (1, .int v1)]) dMO_writeSymbols_32 rfl (Nat.le_of_ble_eq_true rfl) rfl ?_
        refine g_aload_n X dMO_writeSymbols_33 rfl 1 rfl ?_
        refine g_iload_n X dMO_writeSymbols_34 rfl 0 rfl ?_
        refine g_aload_n X dMO_writeSymbols_35 rfl 1 rfl ?_
        refine g_getr X hK.1 fw_MO_98 ly_41 rfl dMO_writeSymbols_36 ?_
        refine g_iload_n X dMO_writeSymbols_39 rfl 2 rfl ?_
        obtain ⟨hi, h⟩ := h
        refine g_iald X hK.1 ly_70 hi dMO_writeSymbols_40 ?_
        refine g_callV X hK gTs_ok ly_41 rfl mw_MO_write4 tw_1172 mi_MO_write4 ms_MO_write4 (As := [.int x1, .int (M 70 (v1).toNatClampNeg)]) rfl ⟨(Nat.le_of_ble_eq_true rfl), (Nat.le_of_ble_eq_true rfl), Nat.le_refl _, Nat.le_refl _⟩ (m_MO_write4 h) (rest := []) rfl (Nat.le_of_ble_eq_true rfl) dMO_writeSymbols_41 (gk_v (fun M3 h => ?_))
        refine g_aload_n X dMO_writeSymbols_44 rfl 1 rfl ?_
        refine g_iload_n X dMO_writeSymbols_45 rfl 0 rfl ?_
        refine g_iconst X (v := (4 : Int32)) dMO_writeSymbols_46 (by decide) ?_
        refine g_iadd X dMO_writeSymbols_47 ?_
        refine g_aload_n X dMO_writeSymbols_48 rfl 1 rfl ?_
        refine g_getr X hK.1 fw_MO_28 ly_41 rfl dMO_writeSymbols_49 ?_
        refine g_iload_n X dMO_writeSymbols_52 rfl 2 rfl ?_
        obtain ⟨hi, h⟩ := h
        refine g_iald X hK.1 ly_48 hi dMO_writeSymbols_53 ?_
        refine g_callV X hK gTs_ok ly_41 rfl mw_MO_write4 tw_1172 mi_MO_write4 ms_MO_write4 (As := [.int (x1 + (4 : Int32)), .int (M3 48 (v1).toNatClampNeg)]) rfl ⟨(Nat.le_of_ble_eq_true rfl), (Nat.le_of_ble_eq_true rfl), Nat.le_refl _, Nat.le_refl _⟩ (m_MO_write4 h) (rest := []) rfl (Nat.le_of_ble_eq_true rfl) dMO_writeSymbols_54 (gk_v (fun M5 h => ?_))
        refine g_aload_n X dMO_writeSymbols_57 rfl 1 rfl ?_
        refine g_iload_n X dMO_writeSymbols_58 rfl 0 rfl ?_
        refine g_bipush X (v := (8 : Int32)) dMO_writeSymbols_59 (by decide) ?_
        refine g_iadd X dMO_writeSymbols_61 ?_
        refine g_aload_n X dMO_writeSymbols_62 rfl 1 rfl ?_
        refine g_getr X hK.1 fw_MO_31 ly_41 rfl dMO_writeSymbols_63 ?_
        refine g_iload_n X dMO_writeSymbols_66 rfl 2 rfl ?_
        obtain ⟨hi, h⟩ := h
        refine g_iald X hK.1 ly_49 hi dMO_writeSymbols_67 ?_
        refine g_callV X hK gTs_ok ly_41 rfl mw_MO_write4 tw_1172 mi_MO_write4 ms_MO_write4 (As := [.int (x1 + (8 : Int32)), .int (M5 49 (v1).toNatClampNeg)]) rfl ⟨(Nat.le_of_ble_eq_true rfl), (Nat.le_of_ble_eq_true rfl), Nat.le_refl _, Nat.le_refl _⟩ (m_MO_write4 h) (rest := []) rfl (Nat.le_of_ble_eq_true rfl) dMO_writeSymbols_68 (gk_v (fun M7 h => ?_))
        refine g_aload_n X dMO_writeSymbols_71 rfl 1 rfl ?_
        refine g_iload_n X dMO_writeSymbols_72 rfl 0 rfl ?_
        refine g_bipush X (v := (12 : Int32)) dMO_writeSymbols_73 (by decide) ?_
        refine g_iadd X dMO_writeSymbols_75 ?_
        refine g_bipush X (v := (16 : Int32)) dMO_writeSymbols_76 (by decide) ?_
        refine g_aload_n X dMO_writeSymbols_78 rfl 1 rfl ?_
        refine g_getr X hK.1 fw_MO_34 ly_41 rfl dMO_writeSymbols_79 ?_
        refine g_iload_n X dMO_writeSymbols_82 rfl 2 rfl ?_
        obtain ⟨hi, h⟩ := h
        refine g_iald X hK.1 ly_50 hi dMO_writeSymbols_83 ?_
        refine g_imul X dMO_writeSymbols_84 ?_
        refine g_aload_n X dMO_writeSymbols_85 rfl 1 rfl ?_
        refine g_getr X hK.1 fw_MO_37 ly_41 rfl dMO_writeSymbols_86 ?_
        refine g_iload_n X dMO_writeSymbols_89 rfl 2 rfl ?_
        obtain ⟨hi, h⟩ := h
        refine g_iald X hK.1 ly_51 hi dMO_writeSymbols_90 ?_
        refine g_iadd X dMO_writeSymbols_91 ?_
        refine g_callV X hK gTs_ok ly_41 rfl mw_MO_write1 tw_1180 mi_MO_write1 ms_MO_write1 (As := [.int (x1 + (12 : Int32)), .int (((16 : Int32) * (M7 50 (v1).toNatClampNeg)) + (M7 51 (v1).toNatClampNeg))]) rfl ⟨(Nat.le_of_ble_eq_true rfl), (Nat.le_of_ble_eq_true rfl), Nat.le_refl _, Nat.le_refl _⟩ (m_MO_write1 h) (rest := []) rfl (Nat.le_of_ble_eq_true rfl) dMO_writeSymbols_92 (gk_v (fun M9 h => ?_))
        refine g_aload_n X dMO_writeSymbols_95 rfl 1 rfl ?_
        refine g_iload_n X dMO_writeSymbols_96 rfl 0 rfl ?_
        refine g_bipush X (v := (14 : Int32)) dMO_writeSymbols_97 (by decide) ?_
        refine g_iadd X dMO_writeSymbols_99 ?_
        refine g_aload_n X dMO_writeSymbols_100 rfl 1 rfl ?_
        refine g_getr X hK.1 fw_MO_25 ly_41 rfl dMO_writeSymbols_101 ?_
        refine g_iload_n X dMO_writeSymbols_104 rfl 2 rfl ?_
        obtain ⟨hi, h⟩ := h
        refine g_iald X hK.1 ly_47 hi dMO_writeSymbols_105 ?_
        refine g_iconst X (v := (-1 : Int32)) dMO_writeSymbols_106 (by decide) ?_
        refine g_icmp_ne X dMO_writeSymbols_107 (fun c => ?_) (fun c => ?_)
        · have h := h.1 c
          refine g_aload_n X dMO_writeSymbols_114 rfl 1 rfl ?_
          refine g_getr X hK.1 fw_MO_25 ly_41 rfl dMO_writeSymbols_115 ?_
          refine g_iload_n X dMO_writeSymbols_118 rfl 2 rfl ?_
          obtain ⟨hi, h⟩ := h
          refine g_iald X hK.1 ly_47 hi dMO_writeSymbols_119 ?_
          refine g_iconst X (v := (4 : Int32)) dMO_writeSymbols_120 (by decide) ?_
          refine g_icmp_ge X dMO_writeSymbols_121 (fun c => ?_) (fun c => ?_)
          · have h := h.1 c
            refine g_aload_n X dMO_writeSymbols_138 rfl 1 rfl ?_
            refine g_getr X hK.1 fw_MO_25 ly_41 rfl dMO_writeSymbols_139 ?_
            refine g_iload_n X dMO_writeSymbols_142 rfl 2 rfl ?_
            obtain ⟨hi, h⟩ := h
            refine g_iald X hK.1 ly_47 hi dMO_writeSymbols_143 ?_
            refine g_iconst X (v := (4 : Int32)) dMO_writeSymbols_144 (by decide) ?_
            refine g_icmp_ne X dMO_writeSymbols_145 (fun c => ?_) (fun c => ?_)
            · have h := h.1 c
              refine g_ldc X (v := (65522 : Int32)) (tw_1197) dMO_writeSymbols_153 ?_
              refine g_callV X hK gTs_ok ly_41 rfl mw_MO_write2 tw_1176 mi_MO_write2 ms_MO_write2 (As := [.int (x1 + (14 : Int32)), .int (65522 : Int32)]) rfl ⟨(Nat.le_of_ble_eq_true rfl), (Nat.le_of_ble_eq_true rfl), Nat.le_refl _, Nat.le_refl _⟩ (m_MO_write2 h) (rest := []) rfl (Nat.le_of_ble_eq_true rfl) dMO_writeSymbols_155 (gk_v (fun M11 h => ?_))
              obtain ⟨x12, ex12⟩ : ∃ z : Int32, z = v1 + (1 : Int32) := ⟨_, rfl⟩
              have h := h x12 ex12
              refine g_iinc X (L' := [(1, .int x12), (2, .int x1), (0, .ref (base + 41))]) (k := 2) dMO_writeSymbols_158 rfl (v := x12) (by rw [ex12]; rfl) (Nat.le_of_ble_eq_true rfl) rfl ?_
              refine g_goto X dMO_writeSymbols_161 ?_
              refine g_sub (L' := [(0, .ref (base + 41)), (1, .int x12)]) [2, 0] rfl ?_
              exact ih x12 M11 h
            · have h := h.2 c
              refine g_ldc X (v := (65521 : Int32)) (tw_1196) dMO_writeSymbols_148 ?_
              refine g_goto X dMO_writeSymbols_150 ?_
              refine g_callV X hK gTs_ok ly_41 rfl mw_MO_write2 tw_1176 mi_MO_write2 ms_MO_write2 (As := [.int (x1 + (14 : Int32)), .int (65521 : Int32)]) rfl ⟨(Nat.le_of_ble_eq_true rfl), (Nat.le_of_ble_eq_true rfl), Nat.le_refl _, Nat.le_refl _⟩ (m_MO_write2 h) (rest := []) rfl (Nat.le_of_ble_eq_true rfl) dMO_writeSymbols_155 (gk_v (fun M14 h => ?_))
              obtain ⟨x15, ex15⟩ : ∃ z : Int32, z = v1 + (1 : Int32) := ⟨_, rfl⟩
              have h := h x15 ex15
              refine g_iinc X (L' := [(1, .int x15), (2, .int x1), (0, .ref (base + 41))]) (k := 2) dMO_writeSymbols_158 rfl (v := x15) (by rw [ex15]; rfl) (Nat.le_of_ble_eq_true rfl) rfl ?_
              refine g_goto X dMO_writeSymbols_161 ?_
              refine g_sub (L' := [(0, .ref (base + 41)), (1, .int x15)]) [2, 0] rfl ?_
              exact ih x15 M14 h
          · have h := h.2 c
            refine g_aload_n X dMO_writeSymbols_124 rfl 1 rfl ?_
            refine g_getr X hK.1 fw_MO_89 ly_41 rfl dMO_writeSymbols_125 ?_
            refine g_aload_n X dMO_writeSymbols_128 rfl 1 rfl ?_
            refine g_getr X hK.1 fw_MO_25 ly_41 rfl dMO_writeSymbols_129 ?_
            refine g_iload_n X dMO_writeSymbols_132 rfl 2 rfl ?_
            obtain ⟨hi, h⟩ := h
            refine g_iald X hK.1 ly_47 hi dMO_writeSymbols_133 ?_
            obtain ⟨hi, h⟩ := h
            refine g_iald X hK.1 ly_67 hi dMO_writeSymbols_134 ?_
            refine g_goto X dMO_writeSymbols_135 ?_
            refine g_callV X hK gTs_ok ly_41 rfl mw_MO_write2 tw_1176 mi_MO_write2 ms_MO_write2 (As := [.int (x1 + (14 : Int32)), .int (M9 67 (M9 47 (v1).toNatClampNeg).toNatClampNeg)]) rfl ⟨(Nat.le_of_ble_eq_true rfl), (Nat.le_of_ble_eq_true rfl), Nat.le_refl _, Nat.le_refl _⟩ (m_MO_write2 h) (rest := []) rfl (Nat.le_of_ble_eq_true rfl) dMO_writeSymbols_155 (gk_v (fun M17 h => ?_))
            obtain ⟨x18, ex18⟩ : ∃ z : Int32, z = v1 + (1 : Int32) := ⟨_, rfl⟩
            have h := h x18 ex18
            refine g_iinc X (L' := [(1, .int x18), (2, .int x1), (0, .ref (base + 41))]) (k := 2) dMO_writeSymbols_158 rfl (v := x18) (by rw [ex18]; rfl) (Nat.le_of_ble_eq_true rfl) rfl ?_
            refine g_goto X dMO_writeSymbols_161 ?_
            refine g_sub (L' := [(0, .ref (base + 41)), (1, .int x18)]) [2, 0] rfl ?_
            exact ih x18 M17 h
        · have h := h.2 c
          refine g_iconst X (v := (0 : Int32)) dMO_writeSymbols_110 (by decide) ?_
          refine g_goto X dMO_writeSymbols_111 ?_
          refine g_callV X hK gTs_ok ly_41 rfl mw_MO_write2 tw_1176 mi_MO_write2 ms_MO_write2 (As := [.int (x1 + (14 : Int32)), .int (0 : Int32)]) rfl ⟨(Nat.le_of_ble_eq_true rfl), (Nat.le_of_ble_eq_true rfl), Nat.le_refl _, Nat.le_refl _⟩ (m_MO_write2 h) (rest := []) rfl (Nat.le_of_ble_eq_true rfl) dMO_writeSymbols_155 (gk_v (fun M20 h => ?_))
          obtain ⟨x21, ex21⟩ : ∃ z : Int32, z = v1 + (1 : Int32) := ⟨_, rfl⟩
          have h := h x21 ex21
          refine g_iinc X (L' := [(1, .int x21), (2, .int x1), (0, .ref (base + 41))]) (k := 2) dMO_writeSymbols_158 rfl (v := x21) (by rw [ex21]; rfl) (Nat.le_of_ble_eq_true rfl) rfl ?_
          refine g_goto X dMO_writeSymbols_161 ?_
          refine g_sub (L' := [(0, .ref (base + 41)), (1, .int x21)]) [2, 0] rfl ?_
          exact ih x21 M20 h
  refine g_args (L' := [(0, .ref (base + 41))]) rfl ?_
  unfold wp_MO_writeSymbols at h
  refine g_iconst X (v := (0 : Int32)) dMO_writeSymbols_0 (by decide) ?_
  refine g_istore_n X (L' := [(1, .int (0 : Int32)), (0, .ref (base + 41))]) dMO_writeSymbols_1 rfl (Nat.le_of_ble_eq_true rfl) rfl ?_
  refine g_sub (L' := [(0, .ref (base + 41)), (1, .int (0 : Int32))]) [1, 0] rfl ?_
  obtain ⟨n9, h⟩ := h
  exact r_2 n9 (0 : Int32) M h
set_option maxRecDepth 100000 in
set_option maxHeartbeats 4000000 in
theorem m_MO_sortOf {l : Launch} {D : va_G} {ta : Nat → ClassId} {base : Nat} {sa : Nat → Nat} {post : Int32 → gMem → Prop} {a0 : Int32} {M : gMem} (h : wp_MO_sortOf post a0 M) : GC gLay gCl D ta base gNw sa gTabs gTs l y_MO_sortOf b_MO_sortOf 1 (some .int) 0 0 [.int a0] M (gPi post) := by
  refine GC.of (own := "ObjectFileModel") pn_MO rfl (Nat.le_of_ble_eq_true rfl) ?_
  intro p e s m below meth c X hK hr hlk
  have r_25 : ∀ (v0 : Int32) (M : gMem), wj_MO_sortOf_25 post v0 M → GMx D ta base p l e 0 0 s m [.int a0] below meth c (gPi post) 1 25 [(0, .int v0)] [] M := by
    intro v0 M h
    unfold wj_MO_sortOf_25 at h
    refine g_iload_n X dMO_sortOf_25 rfl 0 rfl ?_
    refine g_bipush X (v := (8 : Int32)) dMO_sortOf_26 (by decide) ?_
    refine g_icmp_ne X dMO_sortOf_28 (fun c => ?_) (fun c => ?_)
    · have h := h.1 c
      refine g_iload_n X dMO_sortOf_35 rfl 0 rfl ?_
      refine g_bipush X (v := (8 : Int32)) dMO_sortOf_36 (by decide) ?_
      refine g_icmp_le X dMO_sortOf_38 (fun c => ?_) (fun c => ?_)
      · have h := h.1 c
        refine g_iconst X (v := (1 : Int32)) dMO_sortOf_45 (by decide) ?_
        exact g_iret X hr hlk dMO_sortOf_46 ⟨_, rfl, h⟩
      · have h := h.2 c
        refine g_iconst X (v := (3 : Int32)) dMO_sortOf_41 (by decide) ?_
        refine g_goto X dMO_sortOf_42 ?_
        exact g_iret X hr hlk dMO_sortOf_46 ⟨_, rfl, h⟩
    · have h := h.2 c
      refine g_iconst X (v := (2 : Int32)) dMO_sortOf_31 (by decide) ?_
      refine g_goto X dMO_sortOf_32 ?_
      exact g_iret X hr hlk dMO_sortOf_46 ⟨_, rfl, h⟩
  refine g_args (L' := [(0, .int a0)]) rfl ?_
  unfold wp_MO_sortOf at h
  refine g_iload_n X dMO_sortOf_0 rfl 0 rfl ?_
  refine g_iconst X (v := (3 : Int32)) dMO_sortOf_1 (by decide) ?_
  refine g_icmp_ne X dMO_sortOf_2 (fun c => ?_) (fun c => ?_)
  · have h := h.1 c
    refine g_iload_n X dMO_sortOf_10 rfl 0 rfl ?_
    refine g_iconst X (v := (5 : Int32)) dMO_sortOf_11 (by decide) ?_
    refine g_icmp_lt X dMO_sortOf_12 (fun c => ?_) (fun c => ?_)
    · have h := h.1 c
      exact r_25 a0 M h
    · have h := h.2 c
      refine g_iload_n X dMO_sortOf_15 rfl 0 rfl ?_
      refine g_bipush X (v := (8 : Int32)) dMO_sortOf_16 (by decide) ?_
      refine g_icmp_ge X dMO_sortOf_18 (fun c => ?_) (fun c => ?_)
      · have h := h.1 c
        exact r_25 a0 M h
      · have h := h.2 c
        refine g_iconst X (v := (4 : Int32)) dMO_sortOf_21 (by decide) ?_
        refine g_goto X dMO_sortOf_22 ?_
        exact g_iret X hr hlk dMO_sortOf_46 ⟨_, rfl, h⟩
  · have h := h.2 c
    refine g_bipush X (v := (8 : Int32)) dMO_sortOf_5 (by decide) ?_
    refine g_goto X dMO_sortOf_7 ?_
    exact g_iret X hr hlk dMO_sortOf_46 ⟨_, rfl, h⟩
set_option maxRecDepth 100000 in
set_option maxHeartbeats 4000000 in
theorem m_MO_flagsOf {l : Launch} {D : va_G} {ta : Nat → ClassId} {base : Nat} {sa : Nat → Nat} {post : Int32 → gMem → Prop} {a0 : Int32} {M : gMem} (h : wp_MO_flagsOf post a0 M) : GC gLay gCl D ta base gNw sa gTabs gTs l y_MO_flagsOf b_MO_flagsOf 1 (some .int) 0 0 [.int a0] M (gPi post) := by
  refine GC.of (own := "ObjectFileModel") pn_MO rfl (Nat.le_of_ble_eq_true rfl) ?_
  intro p e s m below meth c X hK hr hlk
  refine g_args (L' := [(0, .int a0)]) rfl ?_
  unfold wp_MO_flagsOf at h
  refine g_iload_n X dMO_flagsOf_0 rfl 0 rfl ?_
  refine g_if_ne X dMO_flagsOf_1 (fun c => ?_) (fun c => ?_)
  · have h := h.1 c
    refine g_iload_n X dMO_flagsOf_9 rfl 0 rfl ?_
    refine g_iconst X (v := (1 : Int32)) dMO_flagsOf_10 (by decide) ?_
    refine g_icmp_ne X dMO_flagsOf_11 (fun c => ?_) (fun c => ?_)
    · have h := h.1 c
      refine g_iload_n X dMO_flagsOf_18 rfl 0 rfl ?_
      refine g_iconst X (v := (4 : Int32)) dMO_flagsOf_19 (by decide) ?_
      refine g_icmp_ge X dMO_flagsOf_20 (fun c => ?_) (fun c => ?_)
      · have h := h.1 c
        refine g_iload_n X dMO_flagsOf_27 rfl 0 rfl ?_
        refine g_iconst X (v := (5 : Int32)) dMO_flagsOf_28 (by decide) ?_
        refine g_icmp_lt X dMO_flagsOf_29 (fun c => ?_) (fun c => ?_)
        · have h := h.1 c
          refine g_iconst X (v := (0 : Int32)) dMO_flagsOf_43 (by decide) ?_
          exact g_iret X hr hlk dMO_flagsOf_44 ⟨_, rfl, h⟩
        · have h := h.2 c
          refine g_iload_n X dMO_flagsOf_32 rfl 0 rfl ?_
          refine g_bipush X (v := (8 : Int32)) dMO_flagsOf_33 (by decide) ?_
          refine g_icmp_ge X dMO_flagsOf_35 (fun c => ?_) (fun c => ?_)
          · have h := h.1 c
            refine g_iconst X (v := (0 : Int32)) dMO_flagsOf_43 (by decide) ?_
            exact g_iret X hr hlk dMO_flagsOf_44 ⟨_, rfl, h⟩
          · have h := h.2 c
            refine g_bipush X (v := (64 : Int32)) dMO_flagsOf_38 (by decide) ?_
            refine g_goto X dMO_flagsOf_40 ?_
            exact g_iret X hr hlk dMO_flagsOf_44 ⟨_, rfl, h⟩
      · have h := h.2 c
        refine g_iconst X (v := (3 : Int32)) dMO_flagsOf_23 (by decide) ?_
        refine g_goto X dMO_flagsOf_24 ?_
        exact g_iret X hr hlk dMO_flagsOf_44 ⟨_, rfl, h⟩
    · have h := h.2 c
      refine g_iconst X (v := (2 : Int32)) dMO_flagsOf_14 (by decide) ?_
      refine g_goto X dMO_flagsOf_15 ?_
      exact g_iret X hr hlk dMO_flagsOf_44 ⟨_, rfl, h⟩
  · have h := h.2 c
    refine g_bipush X (v := (6 : Int32)) dMO_flagsOf_4 (by decide) ?_
    refine g_goto X dMO_flagsOf_6 ?_
    exact g_iret X hr hlk dMO_flagsOf_44 ⟨_, rfl, h⟩
set_option maxRecDepth 100000 in
set_option maxHeartbeats 4000000 in
theorem m_MO_eachOf {l : Launch} {D : va_G} {ta : Nat → ClassId} {base : Nat} {sa : Nat → Nat} {post : Int32 → gMem → Prop} {a0 : Int32} {M : gMem} (h : wp_MO_eachOf post a0 M) : GC gLay gCl D ta base gNw sa gTabs gTs l y_MO_eachOf b_MO_eachOf 1 (some .int) 0 0 [.int a0] M (gPi post) := by
  refine GC.of (own := "ObjectFileModel") pn_MO rfl (Nat.le_of_ble_eq_true rfl) ?_
  intro p e s m below meth c X hK hr hlk
  have r_25 : ∀ (v0 : Int32) (M : gMem), wj_MO_eachOf_25 post v0 M → GMx D ta base p l e 0 0 s m [.int a0] below meth c (gPi post) 1 25 [(0, .int v0)] [] M := by
    intro v0 M h
    unfold wj_MO_eachOf_25 at h
    refine g_iload_n X dMO_eachOf_25 rfl 0 rfl ?_
    refine g_bipush X (v := (8 : Int32)) dMO_eachOf_26 (by decide) ?_
    refine g_icmp_ne X dMO_eachOf_28 (fun c => ?_) (fun c => ?_)
    · have h := h.1 c
      refine g_iconst X (v := (0 : Int32)) dMO_eachOf_36 (by decide) ?_
      exact g_iret X hr hlk dMO_eachOf_37 ⟨_, rfl, h⟩
    · have h := h.2 c
      refine g_bipush X (v := (16 : Int32)) dMO_eachOf_31 (by decide) ?_
      refine g_goto X dMO_eachOf_33 ?_
      exact g_iret X hr hlk dMO_eachOf_37 ⟨_, rfl, h⟩
  refine g_args (L' := [(0, .int a0)]) rfl ?_
  unfold wp_MO_eachOf at h
  refine g_iload_n X dMO_eachOf_0 rfl 0 rfl ?_
  refine g_iconst X (v := (4 : Int32)) dMO_eachOf_1 (by decide) ?_
  refine g_icmp_ne X dMO_eachOf_2 (fun c => ?_) (fun c => ?_)
  · have h := h.1 c
    refine g_iload_n X dMO_eachOf_9 rfl 0 rfl ?_
    refine g_iconst X (v := (5 : Int32)) dMO_eachOf_10 (by decide) ?_
    refine g_icmp_lt X dMO_eachOf_11 (fun c => ?_) (fun c => ?_)
    · have h := h.1 c
      exact r_25 a0 M h
    · have h := h.2 c
      refine g_iload_n X dMO_eachOf_14 rfl 0 rfl ?_
      refine g_bipush X (v := (8 : Int32)) dMO_eachOf_15 (by decide) ?_
      refine g_icmp_ge X dMO_eachOf_17 (fun c => ?_) (fun c => ?_)
      · have h := h.1 c
        exact r_25 a0 M h
      · have h := h.2 c
        refine g_bipush X (v := (12 : Int32)) dMO_eachOf_20 (by decide) ?_
        refine g_goto X dMO_eachOf_22 ?_
        exact g_iret X hr hlk dMO_eachOf_37 ⟨_, rfl, h⟩
  · have h := h.2 c
    refine g_iconst X (v := (2 : Int32)) dMO_eachOf_5 (by decide) ?_
    refine g_goto X dMO_eachOf_6 ?_
    exact g_iret X hr hlk dMO_eachOf_37 ⟨_, rfl, h⟩
set_option maxRecDepth 100000 in
set_option maxHeartbeats 4000000 in
theorem m_MO_writeEntry {l : Launch} {D : va_G} {ta : Nat → ClassId} {base : Nat} {sa : Nat → Nat} {post : gMem → Prop} {a0 : Int32} {a1 : Int32} {a2 : Int32} {M : gMem} (h : wp_MO_writeEntry post a0 a1 a2 M) : GC gLay gCl D ta base gNw sa gTabs gTs l y_MO_writeEntry b_MO_writeEntry 5 none 3 66 [.ref (base + 41), .int a0, .int a1, .int a2] M (gPv post) := by
  refine GC.of (own := "ObjectFileModel") pn_MO rfl (Nat.le_of_ble_eq_true rfl) ?_
  intro p e s m below meth c X hK hr hlk
  have r_196 : ∀ (v1 : Int32) (v2 : Int32) (s0 : Int32) (s1 : Int32) (M : gMem), wj_MO_writeEntry_196 post v1 v2 s0 s1 M → GMx D ta base p l e 3 66 s m [.ref (base + 41), .int a0, .int a1, .int a2] below meth c (gPv post) 5 196 [(0, .ref (base + 41)), (1, .int v1), (2, .int v2)] [.int s0, .int s1, .ref (base + 41)] M := by
    intro v1 v2 s0 s1 M h
    unfold wj_MO_writeEntry_196 at h
    refine g_callV X hK gTs_ok ly_41 rfl mw_MO_write4 tw_1172 mi_MO_write4 ms_MO_write4 (As := [.int s1, .int s0]) rfl ⟨(Nat.le_of_ble_eq_true rfl), (Nat.le_of_ble_eq_true rfl), Nat.le_refl _, Nat.le_refl _⟩ (m_MO_write4 h) (rest := []) rfl (Nat.le_of_ble_eq_true rfl) dMO_writeEntry_196 (gk_v (fun M20 h => ?_))
    refine g_aload_n X dMO_writeEntry_199 rfl 0 rfl ?_
    refine g_iload_n X dMO_writeEntry_200 rfl 2 rfl ?_
    refine g_bipush X (v := (36 : Int32)) dMO_writeEntry_201 (by decide) ?_
    refine g_iadd X dMO_writeEntry_203 ?_
    refine g_iload_n X dMO_writeEntry_204 rfl 1 rfl ?_
    refine g_callS X hK gTs_ok mw_MO_eachOf tw_1208 mt_MO_eachOf (As := [.int v1]) rfl ⟨(Nat.le_of_ble_eq_true rfl), (Nat.le_of_ble_eq_true rfl), Nat.le_refl _, Nat.le_refl _⟩ (m_MO_eachOf h) (rest := [.int (v2 + (36 : Int32)), .ref (base + 41)]) rfl (Nat.le_of_ble_eq_true rfl) dMO_writeEntry_205 (gk_i (fun r21 M22 h => ?_))
    refine g_callV X hK gTs_ok ly_41 rfl mw_MO_write4 tw_1172 mi_MO_write4 ms_MO_write4 (As := [.int (v2 + (36 : Int32)), .int r21]) rfl ⟨(Nat.le_of_ble_eq_true rfl), (Nat.le_of_ble_eq_true rfl), Nat.le_refl _, Nat.le_refl _⟩ (m_MO_write4 h) (rest := []) rfl (Nat.le_of_ble_eq_true rfl) dMO_writeEntry_208 (gk_v (fun M24 h => ?_))
    exact g_vret X hr hlk dMO_writeEntry_211 ⟨rfl, h⟩
  have r_154 : ∀ (v1 : Int32) (v2 : Int32) (s0 : Int32) (s1 : Int32) (M : gMem), wj_MO_writeEntry_154 post v1 v2 s0 s1 M → GMx D ta base p l e 3 66 s m [.ref (base + 41), .int a0, .int a1, .int a2] below meth c (gPv post) 5 154 [(0, .ref (base + 41)), (1, .int v1), (2, .int v2)] [.int s0, .int s1, .ref (base + 41)] M := by
    intro v1 v2 s0 s1 M h
    unfold wj_MO_writeEntry_154 at h
    refine g_callV X hK gTs_ok ly_41 rfl mw_MO_write4 tw_1172 mi_MO_write4 ms_MO_write4 (As := [.int s1, .int s0]) rfl ⟨(Nat.le_of_ble_eq_true rfl), (Nat.le_of_ble_eq_true rfl), Nat.le_refl _, Nat.le_refl _⟩ (m_MO_write4 h) (rest := []) rfl (Nat.le_of_ble_eq_true rfl) dMO_writeEntry_154 (gk_v (fun M18 h => ?_))
    refine g_aload_n X dMO_writeEntry_157 rfl 0 rfl ?_
    refine g_iload_n X dMO_writeEntry_158 rfl 2 rfl ?_
    refine g_bipush X (v := (32 : Int32)) dMO_writeEntry_159 (by decide) ?_
    refine g_iadd X dMO_writeEntry_161 ?_
    refine g_iload_n X dMO_writeEntry_162 rfl 1 rfl ?_
    refine g_iconst X (v := (4 : Int32)) dMO_writeEntry_163 (by decide) ?_
    refine g_icmp_ge X dMO_writeEntry_164 (fun c => ?_) (fun c => ?_)
    · have h := h.1 c
      refine g_iload_n X dMO_writeEntry_176 rfl 1 rfl ?_
      refine g_iconst X (v := (4 : Int32)) dMO_writeEntry_177 (by decide) ?_
      refine g_icmp_ne X dMO_writeEntry_178 (fun c => ?_) (fun c => ?_)
      · have h := h.1 c
        refine g_iload_n X dMO_writeEntry_185 rfl 1 rfl ?_
        refine g_bipush X (v := (9 : Int32)) dMO_writeEntry_186 (by decide) ?_
        refine g_icmp_ge X dMO_writeEntry_188 (fun c => ?_) (fun c => ?_)
        · have h := h.1 c
          refine g_iconst X (v := (1 : Int32)) dMO_writeEntry_195 (by decide) ?_
          exact r_196 v1 v2 (1 : Int32) (v2 + (32 : Int32)) M18 h
        · have h := h.2 c
          refine g_iconst X (v := (4 : Int32)) dMO_writeEntry_191 (by decide) ?_
          refine g_goto X dMO_writeEntry_192 ?_
          exact r_196 v1 v2 (4 : Int32) (v2 + (32 : Int32)) M18 h
      · have h := h.2 c
        refine g_iconst X (v := (2 : Int32)) dMO_writeEntry_181 (by decide) ?_
        refine g_goto X dMO_writeEntry_182 ?_
        exact r_196 v1 v2 (2 : Int32) (v2 + (32 : Int32)) M18 h
    · have h := h.2 c
      refine g_aload_n X dMO_writeEntry_167 rfl 0 rfl ?_
      refine g_getr X hK.1 fw_MO_16 ly_41 rfl dMO_writeEntry_168 ?_
      refine g_iload_n X dMO_writeEntry_171 rfl 1 rfl ?_
      obtain ⟨hi, h⟩ := h
      refine g_iald X hK.1 ly_44 hi dMO_writeEntry_172 ?_
      refine g_goto X dMO_writeEntry_173 ?_
      exact r_196 v1 v2 (M18 44 (v1).toNatClampNeg) (v2 + (32 : Int32)) M18 h
  have r_117 : ∀ (v1 : Int32) (v2 : Int32) (v3 : Int32) (v4 : Int32) (s0 : Int32) (s1 : Int32) (M : gMem), wj_MO_writeEntry_117 post v1 v2 v3 v4 s0 s1 M → GMx D ta base p l e 3 66 s m [.ref (base + 41), .int a0, .int a1, .int a2] below meth c (gPv post) 5 117 [(0, .ref (base + 41)), (1, .int v1), (2, .int v2), (3, .int v3), (4, .int v4)] [.int s0, .int s1, .ref (base + 41)] M := by
    intro v1 v2 v3 v4 s0 s1 M h
    unfold wj_MO_writeEntry_117 at h
    refine g_callV X hK gTs_ok ly_41 rfl mw_MO_write4 tw_1172 mi_MO_write4 ms_MO_write4 (As := [.int s1, .int s0]) rfl ⟨(Nat.le_of_ble_eq_true rfl), (Nat.le_of_ble_eq_true rfl), Nat.le_refl _, Nat.le_refl _⟩ (m_MO_write4 h) (rest := []) rfl (Nat.le_of_ble_eq_true rfl) dMO_writeEntry_117 (gk_v (fun M16 h => ?_))
    refine g_aload_n X dMO_writeEntry_120 rfl 0 rfl ?_
    refine g_iload_n X dMO_writeEntry_121 rfl 2 rfl ?_
    refine g_bipush X (v := (28 : Int32)) dMO_writeEntry_122 (by decide) ?_
    refine g_iadd X dMO_writeEntry_124 ?_
    refine g_iload X dMO_writeEntry_125 4 rfl ?_
    refine g_if_eq X dMO_writeEntry_127 (fun c => ?_) (fun c => ?_)
    · have h := h.1 c
      refine g_iload_n X dMO_writeEntry_141 rfl 1 rfl ?_
      refine g_bipush X (v := (8 : Int32)) dMO_writeEntry_142 (by decide) ?_
      refine g_icmp_ne X dMO_writeEntry_144 (fun c => ?_) (fun c => ?_)
      · have h := h.1 c
        refine g_iconst X (v := (0 : Int32)) dMO_writeEntry_153 (by decide) ?_
        refine g_sub (L' := [(0, .ref (base + 41)), (1, .int v1), (2, .int v2)]) [0, 1, 2] rfl ?_
        exact r_154 v1 v2 (0 : Int32) (v2 + (28 : Int32)) M16 h
      · have h := h.2 c
        refine g_iconst X (v := (1 : Int32)) dMO_writeEntry_147 (by decide) ?_
        refine g_iload_n X dMO_writeEntry_148 rfl 3 rfl ?_
        refine g_iadd X dMO_writeEntry_149 ?_
        refine g_goto X dMO_writeEntry_150 ?_
        refine g_sub (L' := [(0, .ref (base + 41)), (1, .int v1), (2, .int v2)]) [0, 1, 2] rfl ?_
        exact r_154 v1 v2 ((1 : Int32) + v3) (v2 + (28 : Int32)) M16 h
    · have h := h.2 c
      refine g_aload_n X dMO_writeEntry_130 rfl 0 rfl ?_
      refine g_getr X hK.1 fw_MO_89 ly_41 rfl dMO_writeEntry_131 ?_
      refine g_iload_n X dMO_writeEntry_134 rfl 1 rfl ?_
      refine g_iconst X (v := (5 : Int32)) dMO_writeEntry_135 (by decide) ?_
      refine g_isub X dMO_writeEntry_136 ?_
      obtain ⟨hi, h⟩ := h
      refine g_iald X hK.1 ly_67 hi dMO_writeEntry_137 ?_
      refine g_goto X dMO_writeEntry_138 ?_
      refine g_sub (L' := [(0, .ref (base + 41)), (1, .int v1), (2, .int v2)]) [0, 1, 2] rfl ?_
      exact r_154 v1 v2 (M16 67 (v1 - (5 : Int32)).toNatClampNeg) (v2 + (28 : Int32)) M16 h
  have r_16 : ∀ (v1 : Int32) (v2 : Int32) (v3 : Int32) (s0 : Int32) (M : gMem), wj_MO_writeEntry_16 post v1 v2 v3 s0 M → GMx D ta base p l e 3 66 s m [.ref (base + 41), .int a0, .int a1, .int a2] below meth c (gPv post) 5 16 [(0, .ref (base + 41)), (1, .int v1), (2, .int v2), (3, .int v3)] [.int s0] M := by
    intro v1 v2 v3 s0 M h
    unfold wj_MO_writeEntry_16 at h
    refine g_istore X (L' := [(4, .int s0), (0, .ref (base + 41)), (1, .int v1), (2, .int v2), (3, .int v3)]) dMO_writeEntry_16 (Nat.le_of_ble_eq_true rfl) rfl ?_
    refine g_aload_n X dMO_writeEntry_18 rfl 1 rfl ?_
    refine g_iload_n X dMO_writeEntry_19 rfl 3 rfl ?_
    refine g_aload_n X dMO_writeEntry_20 rfl 1 rfl ?_
    refine g_getr X hK.1 fw_MO_104 ly_41 rfl dMO_writeEntry_21 ?_
    refine g_iload_n X dMO_writeEntry_24 rfl 2 rfl ?_
    obtain ⟨hi, h⟩ := h
    refine g_iald X hK.1 ly_72 hi dMO_writeEntry_25 ?_
    refine g_callV X hK gTs_ok ly_41 rfl mw_MO_write4 tw_1172 mi_MO_write4 ms_MO_write4 (As := [.int v2, .int (M 72 (v1).toNatClampNeg)]) rfl ⟨(Nat.le_of_ble_eq_true rfl), (Nat.le_of_ble_eq_true rfl), Nat.le_refl _, Nat.le_refl _⟩ (m_MO_write4 h) (rest := []) rfl (Nat.le_of_ble_eq_true rfl) dMO_writeEntry_26 (gk_v (fun M2 h => ?_))
    refine g_aload_n X dMO_writeEntry_29 rfl 1 rfl ?_
    refine g_iload_n X dMO_writeEntry_30 rfl 3 rfl ?_
    refine g_iconst X (v := (4 : Int32)) dMO_writeEntry_31 (by decide) ?_
    refine g_iadd X dMO_writeEntry_32 ?_
    refine g_iload_n X dMO_writeEntry_33 rfl 2 rfl ?_
    refine g_callS X hK gTs_ok mw_MO_sortOf tw_1202 mt_MO_sortOf (As := [.int v1]) rfl ⟨(Nat.le_of_ble_eq_true rfl), (Nat.le_of_ble_eq_true rfl), Nat.le_refl _, Nat.le_refl _⟩ (m_MO_sortOf h) (rest := [.int (v2 + (4 : Int32)), .ref (base + 41)]) rfl (Nat.le_of_ble_eq_true rfl) dMO_writeEntry_34 (gk_i (fun r3 M4 h => ?_))
    refine g_callV X hK gTs_ok ly_41 rfl mw_MO_write4 tw_1172 mi_MO_write4 ms_MO_write4 (As := [.int (v2 + (4 : Int32)), .int r3]) rfl ⟨(Nat.le_of_ble_eq_true rfl), (Nat.le_of_ble_eq_true rfl), Nat.le_refl _, Nat.le_refl _⟩ (m_MO_write4 h) (rest := []) rfl (Nat.le_of_ble_eq_true rfl) dMO_writeEntry_37 (gk_v (fun M6 h => ?_))
    refine g_aload_n X dMO_writeEntry_40 rfl 1 rfl ?_
    refine g_iload_n X dMO_writeEntry_41 rfl 3 rfl ?_
    refine g_bipush X (v := (8 : Int32)) dMO_writeEntry_42 (by decide) ?_
    refine g_iadd X dMO_writeEntry_44 ?_
    refine g_iload_n X dMO_writeEntry_45 rfl 2 rfl ?_
    refine g_callS X hK gTs_ok mw_MO_flagsOf tw_1205 mt_MO_flagsOf (As := [.int v1]) rfl ⟨(Nat.le_of_ble_eq_true rfl), (Nat.le_of_ble_eq_true rfl), Nat.le_refl _, Nat.le_refl _⟩ (m_MO_flagsOf h) (rest := [.int (v2 + (8 : Int32)), .ref (base + 41)]) rfl (Nat.le_of_ble_eq_true rfl) dMO_writeEntry_46 (gk_i (fun r7 M8 h => ?_))
    refine g_callV X hK gTs_ok ly_41 rfl mw_MO_write4 tw_1172 mi_MO_write4 ms_MO_write4 (As := [.int (v2 + (8 : Int32)), .int r7]) rfl ⟨(Nat.le_of_ble_eq_true rfl), (Nat.le_of_ble_eq_true rfl), Nat.le_refl _, Nat.le_refl _⟩ (m_MO_write4 h) (rest := []) rfl (Nat.le_of_ble_eq_true rfl) dMO_writeEntry_49 (gk_v (fun M10 h => ?_))
    refine g_aload_n X dMO_writeEntry_52 rfl 1 rfl ?_
    refine g_iload_n X dMO_writeEntry_53 rfl 3 rfl ?_
    refine g_bipush X (v := (16 : Int32)) dMO_writeEntry_54 (by decide) ?_
    refine g_iadd X dMO_writeEntry_56 ?_
    refine g_aload_n X dMO_writeEntry_57 rfl 1 rfl ?_
    refine g_getr X hK.1 fw_MO_83 ly_41 rfl dMO_writeEntry_58 ?_
    refine g_iload_n X dMO_writeEntry_61 rfl 2 rfl ?_
    obtain ⟨hi, h⟩ := h
    refine g_iald X hK.1 ly_65 hi dMO_writeEntry_62 ?_
    refine g_callV X hK gTs_ok ly_41 rfl mw_MO_write4 tw_1172 mi_MO_write4 ms_MO_write4 (As := [.int (v2 + (16 : Int32)), .int (M10 65 (v1).toNatClampNeg)]) rfl ⟨(Nat.le_of_ble_eq_true rfl), (Nat.le_of_ble_eq_true rfl), Nat.le_refl _, Nat.le_refl _⟩ (m_MO_write4 h) (rest := []) rfl (Nat.le_of_ble_eq_true rfl) dMO_writeEntry_63 (gk_v (fun M12 h => ?_))
    refine g_aload_n X dMO_writeEntry_66 rfl 1 rfl ?_
    refine g_iload_n X dMO_writeEntry_67 rfl 3 rfl ?_
    refine g_bipush X (v := (20 : Int32)) dMO_writeEntry_68 (by decide) ?_
    refine g_iadd X dMO_writeEntry_70 ?_
    refine g_aload_n X dMO_writeEntry_71 rfl 1 rfl ?_
    refine g_getr X hK.1 fw_MO_86 ly_41 rfl dMO_writeEntry_72 ?_
    refine g_iload_n X dMO_writeEntry_75 rfl 2 rfl ?_
    obtain ⟨hi, h⟩ := h
    refine g_iald X hK.1 ly_66 hi dMO_writeEntry_76 ?_
    refine g_callV X hK gTs_ok ly_41 rfl mw_MO_write4 tw_1172 mi_MO_write4 ms_MO_write4 (As := [.int (v2 + (20 : Int32)), .int (M12 66 (v1).toNatClampNeg)]) rfl ⟨(Nat.le_of_ble_eq_true rfl), (Nat.le_of_ble_eq_true rfl), Nat.le_refl _, Nat.le_refl _⟩ (m_MO_write4 h) (rest := []) rfl (Nat.le_of_ble_eq_true rfl) dMO_writeEntry_77 (gk_v (fun M14 h => ?_))
    refine g_aload_n X dMO_writeEntry_80 rfl 1 rfl ?_
    refine g_iload_n X dMO_writeEntry_81 rfl 3 rfl ?_
    refine g_bipush X (v := (24 : Int32)) dMO_writeEntry_82 (by decide) ?_
    refine g_iadd X dMO_writeEntry_84 ?_
    refine g_iload X dMO_writeEntry_85 0 rfl ?_
    refine g_if_eq X dMO_writeEntry_87 (fun c => ?_) (fun c => ?_)
    · have h := h.1 c
      refine g_iload_n X dMO_writeEntry_100 rfl 2 rfl ?_
      refine g_bipush X (v := (8 : Int32)) dMO_writeEntry_101 (by decide) ?_
      refine g_icmp_ne X dMO_writeEntry_103 (fun c => ?_) (fun c => ?_)
      · have h := h.1 c
        refine g_iconst X (v := (0 : Int32)) dMO_writeEntry_116 (by decide) ?_
        refine g_sub (L' := [(0, .ref (base + 41)), (1, .int v1), (2, .int v2), (3, .int v3), (4, .int s0)]) [1, 2, 3, 4, 0] rfl ?_
        exact r_117 v1 v2 v3 s0 (0 : Int32) (v2 + (24 : Int32)) M14 h
      · have h := h.2 c
        refine g_aload_n X dMO_writeEntry_106 rfl 1 rfl ?_
        refine g_getr X hK.1 fw_MO_89 ly_41 rfl dMO_writeEntry_107 ?_
        refine g_bipush X (v := (9 : Int32)) dMO_writeEntry_110 (by decide) ?_
        obtain ⟨hi, h⟩ := h
        refine g_iald X hK.1 ly_67 hi dMO_writeEntry_112 ?_
        refine g_goto X dMO_writeEntry_113 ?_
        refine g_sub (L' := [(0, .ref (base + 41)), (1, .int v1), (2, .int v2), (3, .int v3), (4, .int s0)]) [1, 2, 3, 4, 0] rfl ?_
        exact r_117 v1 v2 v3 s0 (M14 67 ((9 : Int32)).toNatClampNeg) (v2 + (24 : Int32)) M14 h
    · have h := h.2 c
      refine g_aload_n X dMO_writeEntry_90 rfl 1 rfl ?_
      refine g_getr X hK.1 fw_MO_89 ly_41 rfl dMO_writeEntry_91 ?_
      refine g_bipush X (v := (8 : Int32)) dMO_writeEntry_94 (by decide) ?_
      obtain ⟨hi, h⟩ := h
      refine g_iald X hK.1 ly_67 hi dMO_writeEntry_96 ?_
      refine g_goto X dMO_writeEntry_97 ?_
      refine g_sub (L' := [(0, .ref (base + 41)), (1, .int v1), (2, .int v2), (3, .int v3), (4, .int s0)]) [1, 2, 3, 4, 0] rfl ?_
      exact r_117 v1 v2 v3 s0 (M14 67 ((8 : Int32)).toNatClampNeg) (v2 + (24 : Int32)) M14 h
  have r_15 : ∀ (v1 : Int32) (v2 : Int32) (v3 : Int32) (M : gMem), wj_MO_writeEntry_15 post v1 v2 v3 M → GMx D ta base p l e 3 66 s m [.ref (base + 41), .int a0, .int a1, .int a2] below meth c (gPv post) 5 15 [(0, .ref (base + 41)), (1, .int v1), (2, .int v2), (3, .int v3)] [] M := by
    intro v1 v2 v3 M h
    unfold wj_MO_writeEntry_15 at h
    refine g_iconst X (v := (0 : Int32)) dMO_writeEntry_15 (by decide) ?_
    exact r_16 v1 v2 v3 (0 : Int32) M h
  refine g_args (L' := [(0, .ref (base + 41)), (1, .int a0), (2, .int a1), (3, .int a2)]) rfl ?_
  unfold wp_MO_writeEntry at h
  refine g_iload_n X dMO_writeEntry_0 rfl 1 rfl ?_
  refine g_iconst X (v := (5 : Int32)) dMO_writeEntry_1 (by decide) ?_
  refine g_icmp_lt X dMO_writeEntry_2 (fun c => ?_) (fun c => ?_)
  · have h := h.1 c
    exact r_15 a0 a1 a2 M h
  · have h := h.2 c
    refine g_iload_n X dMO_writeEntry_5 rfl 1 rfl ?_
    refine g_bipush X (v := (8 : Int32)) dMO_writeEntry_6 (by decide) ?_
    refine g_icmp_ge X dMO_writeEntry_8 (fun c => ?_) (fun c => ?_)
    · have h := h.1 c
      exact r_15 a0 a1 a2 M h
    · have h := h.2 c
      refine g_iconst X (v := (1 : Int32)) dMO_writeEntry_11 (by decide) ?_
      refine g_goto X dMO_writeEntry_12 ?_
      exact r_16 a0 a1 a2 (1 : Int32) M h
set_option maxRecDepth 100000 in
set_option maxHeartbeats 4000000 in
theorem m_MO_writeRelocations {l : Launch} {D : va_G} {ta : Nat → ClassId} {base : Nat} {sa : Nat → Nat} {post : gMem → Prop} {a0 : Int32} {M : gMem} (h : wp_MO_writeRelocations post a0 M) : GC gLay gCl D ta base gNw sa gTabs gTs l y_MO_writeRelocations b_MO_writeRelocations 4 none 3 66 [.ref (base + 41), .int a0] M (gPv post) := by
  refine GC.of (own := "ObjectFileModel") pn_MO rfl (Nat.le_of_ble_eq_true rfl) ?_
  intro p e s m below meth c X hK hr hlk
  have r_79 : ∀ (k11 : Int32 → Int32 → Int32 → gMem → Prop) (hk11 : ∀ (v1 : Int32) (v2 : Int32) (v3 : Int32) (M : gMem), k11 v1 v2 v3 M → GMx D ta base p l e 3 66 s m [.ref (base + 41), .int a0] below meth c (gPv post) 4 11 [(0, .ref (base + 41)), (1, .int v1), (2, .int v2), (3, .int v3)] [] M) (v1 : Int32) (v2 : Int32) (v3 : Int32) (s0 : Int32) (s1 : Int32) (s2 : Int32) (M : gMem), wj_MO_writeRelocations_79 post k11 v1 v2 v3 s0 s1 s2 M → GMx D ta base p l e 3 66 s m [.ref (base + 41), .int a0] below meth c (gPv post) 4 79 [(0, .ref (base + 41)), (1, .int v1), (2, .int v2), (3, .int v3)] [.int s0, .int s1, .int s2, .ref (base + 41)] M := by
    intro k11 hk11 v1 v2 v3 s0 s1 s2 M h
    unfold wj_MO_writeRelocations_79 at h
    refine g_imul X dMO_writeRelocations_79 ?_
    refine g_aload_n X dMO_writeRelocations_80 rfl 0 rfl ?_
    refine g_getr X hK.1 fw_MO_55 ly_41 rfl dMO_writeRelocations_81 ?_
    refine g_iload_n X dMO_writeRelocations_84 rfl 3 rfl ?_
    obtain ⟨hi, h⟩ := h
    refine g_iald X hK.1 ly_57 hi dMO_writeRelocations_85 ?_
    refine g_iadd X dMO_writeRelocations_86 ?_
    refine g_callV X hK gTs_ok ly_41 rfl mw_MO_write4 tw_1172 mi_MO_write4 ms_MO_write4 (As := [.int s2, .int ((s1 * s0) + (M 57 (v3).toNatClampNeg))]) rfl ⟨(Nat.le_of_ble_eq_true rfl), (Nat.le_of_ble_eq_true rfl), Nat.le_refl _, Nat.le_refl _⟩ (m_MO_write4 h) (rest := []) rfl (Nat.le_of_ble_eq_true rfl) dMO_writeRelocations_87 (gk_v (fun M5 h => ?_))
    refine g_aload_n X dMO_writeRelocations_90 rfl 0 rfl ?_
    refine g_iload_n X dMO_writeRelocations_91 rfl 2 rfl ?_
    refine g_bipush X (v := (8 : Int32)) dMO_writeRelocations_92 (by decide) ?_
    refine g_iadd X dMO_writeRelocations_94 ?_
    refine g_aload_n X dMO_writeRelocations_95 rfl 0 rfl ?_
    refine g_getr X hK.1 fw_MO_61 ly_41 rfl dMO_writeRelocations_96 ?_
    refine g_iload_n X dMO_writeRelocations_99 rfl 3 rfl ?_
    obtain ⟨hi, h⟩ := h
    refine g_iald X hK.1 ly_59 hi dMO_writeRelocations_100 ?_
    refine g_callV X hK gTs_ok ly_41 rfl mw_MO_write4 tw_1172 mi_MO_write4 ms_MO_write4 (As := [.int (v2 + (8 : Int32)), .int (M5 59 (v3).toNatClampNeg)]) rfl ⟨(Nat.le_of_ble_eq_true rfl), (Nat.le_of_ble_eq_true rfl), Nat.le_refl _, Nat.le_refl _⟩ (m_MO_write4 h) (rest := []) rfl (Nat.le_of_ble_eq_true rfl) dMO_writeRelocations_101 (gk_v (fun M7 h => ?_))
    obtain ⟨x8, ex8⟩ : ∃ z : Int32, z = v2 + (12 : Int32) := ⟨_, rfl⟩
    have h := h x8 ex8
    refine g_iinc X (L' := [(2, .int x8), (0, .ref (base + 41)), (1, .int v1), (3, .int v3)]) (k := 2) dMO_writeRelocations_104 rfl (v := x8) (by rw [ex8]; rfl) (Nat.le_of_ble_eq_true rfl) rfl ?_
    obtain ⟨x9, ex9⟩ : ∃ z : Int32, z = v3 + (1 : Int32) := ⟨_, rfl⟩
    have h := h x9 ex9
    refine g_iinc X (L' := [(3, .int x9), (2, .int x8), (0, .ref (base + 41)), (1, .int v1)]) (k := 3) dMO_writeRelocations_107 rfl (v := x9) (by rw [ex9]; rfl) (Nat.le_of_ble_eq_true rfl) rfl ?_
    refine g_goto X dMO_writeRelocations_110 ?_
    refine g_sub (L' := [(0, .ref (base + 41)), (1, .int v1), (2, .int x8), (3, .int x9)]) [2, 3, 1, 0] rfl ?_
    exact hk11 v1 x8 x9 M7 h
  have r_11 : ∀ (n : Nat) (v1 : Int32) (v2 : Int32) (v3 : Int32) (M : gMem), wl_MO_writeRelocations_11 post n v1 v2 v3 M → GMx D ta base p l e 3 66 s m [.ref (base + 41), .int a0] below meth c (gPv post) 4 11 [(0, .ref (base + 41)), (1, .int v1), (2, .int v2), (3, .int v3)] [] M := by
    intro n
    induction n with
    | zero => exact fun _ _ _ M h => h.elim
    | succ n ih =>
      intro v1 v2 v3 M h
      refine g_iload_n X dMO_writeRelocations_11 rfl 3 rfl ?_
      refine g_aload_n X dMO_writeRelocations_12 rfl 0 rfl ?_
      refine g_getr X hK.1 fw_MO_64 ly_41 rfl dMO_writeRelocations_13 ?_
      refine g_iconst X (v := (0 : Int32)) dMO_writeRelocations_16 (by decide) ?_
      obtain ⟨hi, h⟩ := h
      refine g_iald X hK.1 ly_60 hi dMO_writeRelocations_17 ?_
      refine g_icmp_ge X dMO_writeRelocations_18 (fun c => ?_) (fun c => ?_)
      · have h := h.1 c
        exact g_vret X hr hlk dMO_writeRelocations_113 ⟨rfl, h⟩
      · have h := h.2 c
        refine g_aload_n X dMO_writeRelocations_21 rfl 0 rfl ?_
        refine g_getr X hK.1 fw_MO_49 ly_41 rfl dMO_writeRelocations_22 ?_
        refine g_iload_n X dMO_writeRelocations_25 rfl 3 rfl ?_
        obtain ⟨hi, h⟩ := h
        refine g_iald X hK.1 ly_55 hi dMO_writeRelocations_26 ?_
        refine g_iload_n X dMO_writeRelocations_27 rfl 1 rfl ?_
        refine g_icmp_eq X dMO_writeRelocations_28 (fun c => ?_) (fun c => ?_)
        · have h := h.1 c
          refine g_aload_n X dMO_writeRelocations_34 rfl 0 rfl ?_
          refine g_iload_n X dMO_writeRelocations_35 rfl 2 rfl ?_
          refine g_aload_n X dMO_writeRelocations_36 rfl 0 rfl ?_
          refine g_getr X hK.1 fw_MO_52 ly_41 rfl dMO_writeRelocations_37 ?_
          refine g_iload_n X dMO_writeRelocations_40 rfl 3 rfl ?_
          obtain ⟨hi, h⟩ := h
          refine g_iald X hK.1 ly_56 hi dMO_writeRelocations_41 ?_
          refine g_callV X hK gTs_ok ly_41 rfl mw_MO_write4 tw_1172 mi_MO_write4 ms_MO_write4 (As := [.int v2, .int (M 56 (v3).toNatClampNeg)]) rfl ⟨(Nat.le_of_ble_eq_true rfl), (Nat.le_of_ble_eq_true rfl), Nat.le_refl _, Nat.le_refl _⟩ (m_MO_write4 h) (rest := []) rfl (Nat.le_of_ble_eq_true rfl) dMO_writeRelocations_42 (gk_v (fun M3 h => ?_))
          refine g_aload_n X dMO_writeRelocations_45 rfl 0 rfl ?_
          refine g_iload_n X dMO_writeRelocations_46 rfl 2 rfl ?_
          refine g_iconst X (v := (4 : Int32)) dMO_writeRelocations_47 (by decide) ?_
          refine g_iadd X dMO_writeRelocations_48 ?_
          refine g_sipush X (v := (256 : Int32)) dMO_writeRelocations_49 (by decide) ?_
          refine g_aload_n X dMO_writeRelocations_52 rfl 0 rfl ?_
          refine g_getr X hK.1 fw_MO_58 ly_41 rfl dMO_writeRelocations_53 ?_
          refine g_iload_n X dMO_writeRelocations_56 rfl 3 rfl ?_
          obtain ⟨hi, h⟩ := h
          refine g_iald X hK.1 ly_58 hi dMO_writeRelocations_57 ?_
          refine g_iconst X (v := (-1 : Int32)) dMO_writeRelocations_58 (by decide) ?_
          refine g_icmp_ne X dMO_writeRelocations_59 (fun c => ?_) (fun c => ?_)
          · have h := h.1 c
            refine g_iconst X (v := (1 : Int32)) dMO_writeRelocations_66 (by decide) ?_
            refine g_aload_n X dMO_writeRelocations_67 rfl 0 rfl ?_
            refine g_getr X hK.1 fw_MO_101 ly_41 rfl dMO_writeRelocations_68 ?_
            refine g_aload_n X dMO_writeRelocations_71 rfl 0 rfl ?_
            refine g_getr X hK.1 fw_MO_58 ly_41 rfl dMO_writeRelocations_72 ?_
            refine g_iload_n X dMO_writeRelocations_75 rfl 3 rfl ?_
            obtain ⟨hi, h⟩ := h
            refine g_iald X hK.1 ly_58 hi dMO_writeRelocations_76 ?_
            obtain ⟨hi, h⟩ := h
            refine g_iald X hK.1 ly_71 hi dMO_writeRelocations_77 ?_
            refine g_iadd X dMO_writeRelocations_78 ?_
            exact r_79 _ (ih) v1 v2 v3 ((1 : Int32) + (M3 71 (M3 58 (v3).toNatClampNeg).toNatClampNeg)) (256 : Int32) (v2 + (4 : Int32)) M3 h
          · have h := h.2 c
            refine g_iconst X (v := (0 : Int32)) dMO_writeRelocations_62 (by decide) ?_
            refine g_goto X dMO_writeRelocations_63 ?_
            exact r_79 _ (ih) v1 v2 v3 (0 : Int32) (256 : Int32) (v2 + (4 : Int32)) M3 h
        · have h := h.2 c
          refine g_goto X dMO_writeRelocations_31 ?_
          obtain ⟨x10, ex10⟩ : ∃ z : Int32, z = v3 + (1 : Int32) := ⟨_, rfl⟩
          have h := h x10 ex10
          refine g_iinc X (L' := [(3, .int x10), (0, .ref (base + 41)), (1, .int v1), (2, .int v2)]) (k := 3) dMO_writeRelocations_107 rfl (v := x10) (by rw [ex10]; rfl) (Nat.le_of_ble_eq_true rfl) rfl ?_
          refine g_goto X dMO_writeRelocations_110 ?_
          refine g_sub (L' := [(0, .ref (base + 41)), (1, .int v1), (2, .int v2), (3, .int x10)]) [1, 2, 3, 0] rfl ?_
          exact ih v1 v2 x10 M h
  refine g_args (L' := [(0, .ref (base + 41)), (1, .int a0)]) rfl ?_
  unfold wp_MO_writeRelocations at h
  refine g_aload_n X dMO_writeRelocations_0 rfl 0 rfl ?_
  refine g_getr X hK.1 fw_MO_83 ly_41 rfl dMO_writeRelocations_1 ?_
  refine g_iconst X (v := (5 : Int32)) dMO_writeRelocations_4 (by decide) ?_
  refine g_iload_n X dMO_writeRelocations_5 rfl 1 rfl ?_
  refine g_iadd X dMO_writeRelocations_6 ?_
  obtain ⟨hi, h⟩ := h
  refine g_iald X hK.1 ly_65 hi dMO_writeRelocations_7 ?_
  refine g_topi (fun x1 ex1 => ?_)
  have h := h x1 ex1
  refine g_istore_n X (L' := [(2, .int x1), (0, .ref (base + 41)), (1, .int a0)]) dMO_writeRelocations_8 rfl (Nat.le_of_ble_eq_true rfl) rfl ?_
  refine g_iconst X (v := (0 : Int32)) dMO_writeRelocations_9 (by decide) ?_
  refine g_istore_n X (L' := [(3, .int (0 : Int32)), (2, .int x1), (0, .ref (base + 41)), (1, .int a0)]) dMO_writeRelocations_10 rfl (Nat.le_of_ble_eq_true rfl) rfl ?_
  refine g_sub (L' := [(0, .ref (base + 41)), (1, .int a0), (2, .int x1), (3, .int (0 : Int32))]) [2, 3, 1, 0] rfl ?_
  obtain ⟨n9, h⟩ := h
  exact r_11 n9 a0 x1 (0 : Int32) M h
set_option maxRecDepth 100000 in
set_option maxHeartbeats 4000000 in
theorem m_MO_write {l : Launch} {D : va_G} {ta : Nat → ClassId} {base : Nat} {sa : Nat → Nat} {post : Int32 → gMem → Prop} {M : gMem} (h : wp_MO_write post M) : GC gLay gCl D ta base gNw sa gTabs gTs l y_MO_write b_MO_write 6 (some .int) 4 90 [.ref (base + 41)] M (gPi post) := by
  refine GC.of (own := "ObjectFileModel") pn_MO rfl (Nat.le_of_ble_eq_true rfl) ?_
  intro p e s m below meth c X hK hr hlk
  have r_306 : ∀ (n : Nat) (v2 : Int32) (v3 : Int32) (v5 : Int32) (M : gMem), wl_MO_write_306 post n v2 v3 v5 M → GMx D ta base p l e 4 90 s m [.ref (base + 41)] below meth c (gPi post) 6 306 [(0, .ref (base + 41)), (2, .int v2), (3, .int v3), (5, .int v5)] [] M := by
    intro n
    induction n with
    | zero => exact fun _ _ _ M h => h.elim
    | succ n ih =>
      intro v2 v3 v5 M h
      refine g_iload X dMO_write_306 3 rfl ?_
      refine g_bipush X (v := (11 : Int32)) dMO_write_308 (by decide) ?_
      refine g_icmp_ge X dMO_write_310 (fun c => ?_) (fun c => ?_)
      · have h := h.1 c
        refine g_aload_n X dMO_write_348 rfl 0 rfl ?_
        refine g_geti X hK.1 fw_MO_233 ly_41 rfl dMO_write_349 ?_
        exact g_iret X hr hlk dMO_write_352 ⟨_, rfl, h⟩
      · have h := h.2 c
        refine g_aload_n X dMO_write_313 rfl 0 rfl ?_
        refine g_getr X hK.1 fw_MO_89 ly_41 rfl dMO_write_314 ?_
        refine g_iload X dMO_write_317 3 rfl ?_
        obtain ⟨hi, h⟩ := h
        refine g_iald X hK.1 ly_67 hi dMO_write_319 ?_
        refine g_if_le X dMO_write_320 (fun c => ?_) (fun c => ?_)
        · have h := h.1 c
          obtain ⟨x16, ex16⟩ : ∃ z : Int32, z = v5 + (1 : Int32) := ⟨_, rfl⟩
          have h := h x16 ex16
          refine g_iinc X (L' := [(5, .int x16), (0, .ref (base + 41)), (2, .int v2), (3, .int v3)]) (k := 3) dMO_write_342 rfl (v := x16) (by rw [ex16]; rfl) (Nat.le_of_ble_eq_true rfl) rfl ?_
          refine g_goto X dMO_write_345 ?_
          refine g_sub (L' := [(0, .ref (base + 41)), (2, .int v2), (3, .int v3), (5, .int x16)]) [1, 2, 3, 0] rfl ?_
          exact ih v2 v3 x16 M h
        · have h := h.2 c
          refine g_aload_n X dMO_write_323 rfl 0 rfl ?_
          refine g_iload X dMO_write_324 3 rfl ?_
          refine g_iload_n X dMO_write_326 rfl 1 rfl ?_
          refine g_bipush X (v := (40 : Int32)) dMO_write_327 (by decide) ?_
          refine g_aload_n X dMO_write_329 rfl 0 rfl ?_
          refine g_getr X hK.1 fw_MO_89 ly_41 rfl dMO_write_330 ?_
          refine g_iload X dMO_write_333 3 rfl ?_
          obtain ⟨hi, h⟩ := h
          refine g_iald X hK.1 ly_67 hi dMO_write_335 ?_
          refine g_imul X dMO_write_336 ?_
          refine g_iadd X dMO_write_337 ?_
          refine g_iload_n X dMO_write_338 rfl 2 rfl ?_
          refine g_callV X hK gTs_ok ly_41 rfl mw_MO_writeEntry tw_1198 mi_MO_writeEntry ms_MO_writeEntry (As := [.int v5, .int (v2 + ((40 : Int32) * (M 67 (v5).toNatClampNeg))), .int v3]) rfl ⟨(Nat.le_of_ble_eq_true rfl), (Nat.le_of_ble_eq_true rfl), Nat.le_refl _, Nat.le_refl _⟩ (m_MO_writeEntry h) (rest := []) rfl (Nat.le_of_ble_eq_true rfl) dMO_write_339 (gk_v (fun M18 h => ?_))
          obtain ⟨x19, ex19⟩ : ∃ z : Int32, z = v5 + (1 : Int32) := ⟨_, rfl⟩
          have h := h x19 ex19
          refine g_iinc X (L' := [(5, .int x19), (0, .ref (base + 41)), (2, .int v2), (3, .int v3)]) (k := 3) dMO_write_342 rfl (v := x19) (by rw [ex19]; rfl) (Nat.le_of_ble_eq_true rfl) rfl ?_
          refine g_goto X dMO_write_345 ?_
          refine g_sub (L' := [(0, .ref (base + 41)), (2, .int v2), (3, .int v3), (5, .int x19)]) [1, 2, 3, 0] rfl ?_
          exact ih v2 v3 x19 M18 h
  have r_268 : ∀ (n : Nat) (v2 : Int32) (v3 : Int32) (v4 : Int32) (v5 : Int32) (M : gMem), wl_MO_write_268 post n v2 v3 v4 v5 M → GMx D ta base p l e 4 90 s m [.ref (base + 41)] below meth c (gPi post) 6 268 [(0, .ref (base + 41)), (2, .int v2), (3, .int v3), (4, .int v4), (5, .int v5)] [] M := by
    intro n
    induction n with
    | zero => exact fun _ _ _ _ M h => h.elim
    | succ n ih =>
      intro v2 v3 v4 v5 M h
      refine g_iload X dMO_write_268 4 rfl ?_
      refine g_iload X dMO_write_270 3 rfl ?_
      refine g_icmp_ge X dMO_write_272 (fun c => ?_) (fun c => ?_)
      · have h := h.1 c
        refine g_iconst X (v := (0 : Int32)) dMO_write_303 (by decide) ?_
        refine g_istore X (L' := [(5, .int (0 : Int32)), (0, .ref (base + 41)), (2, .int v2), (3, .int v3), (4, .int v4)]) dMO_write_304 (Nat.le_of_ble_eq_true rfl) rfl ?_
        refine g_sub (L' := [(0, .ref (base + 41)), (2, .int v2), (3, .int v3), (5, .int (0 : Int32))]) [1, 2, 3, 0] rfl ?_
        obtain ⟨n9, h⟩ := h
        exact r_306 n9 v2 v3 (0 : Int32) M h
      · have h := h.2 c
        refine g_aload_n X dMO_write_275 rfl 0 rfl ?_
        refine g_getr X hK.1 fw_MO_70 ly_41 rfl dMO_write_276 ?_
        refine g_aload_n X dMO_write_279 rfl 0 rfl ?_
        refine g_getr X hK.1 fw_MO_83 ly_41 rfl dMO_write_280 ?_
        refine g_bipush X (v := (9 : Int32)) dMO_write_283 (by decide) ?_
        obtain ⟨hi, h⟩ := h
        refine g_iald X hK.1 ly_65 hi dMO_write_285 ?_
        refine g_iload X dMO_write_286 4 rfl ?_
        refine g_iadd X dMO_write_288 ?_
        refine g_aload_n X dMO_write_289 rfl 0 rfl ?_
        refine g_getr X hK.1 fw_MO_92 ly_41 rfl dMO_write_290 ?_
        refine g_iload X dMO_write_293 4 rfl ?_
        obtain ⟨hi, h⟩ := h
        refine g_iald X hK.1 ly_68 hi dMO_write_295 ?_
        obtain ⟨hi, h⟩ := h
        refine g_iast X hK.1 ly_62 hi dMO_write_296 ?_
        refine g_topM (fun M20 eM20 => ?_)
        have h := h M20 eM20
        obtain ⟨x21, ex21⟩ : ∃ z : Int32, z = v5 + (1 : Int32) := ⟨_, rfl⟩
        have h := h x21 ex21
        refine g_iinc X (L' := [(5, .int x21), (0, .ref (base + 41)), (2, .int v2), (3, .int v3), (4, .int v4)]) (k := 4) dMO_write_297 rfl (v := x21) (by rw [ex21]; rfl) (Nat.le_of_ble_eq_true rfl) rfl ?_
        refine g_goto X dMO_write_300 ?_
        refine g_sub (L' := [(0, .ref (base + 41)), (2, .int v2), (3, .int v3), (4, .int v4), (5, .int x21)]) [1, 2, 3, 4, 0] rfl ?_
        exact ih v2 v3 v4 x21 M20 h
  have r_224 : ∀ (n : Nat) (v2 : Int32) (v3 : Int32) (v4 : Int32) (v5 : Int32) (M : gMem), wl_MO_write_224 post n v2 v3 v4 v5 M → GMx D ta base p l e 4 90 s m [.ref (base + 41)] below meth c (gPi post) 6 224 [(0, .ref (base + 41)), (2, .int v2), (3, .int v3), (4, .int v4), (5, .int v5)] [] M := by
    intro n
    induction n with
    | zero => exact fun _ _ _ _ M h => h.elim
    | succ n ih =>
      intro v2 v3 v4 v5 M h
      refine g_iload X dMO_write_224 4 rfl ?_
      refine g_iload X dMO_write_226 3 rfl ?_
      refine g_icmp_ge X dMO_write_228 (fun c => ?_) (fun c => ?_)
      · have h := h.1 c
        refine g_aload_n X dMO_write_259 rfl 0 rfl ?_
        refine g_callV X hK gTs_ok ly_41 rfl mw_MO_sizeOfSymbolNames tw_1147 mi_MO_sizeOfSymbolNames ms_MO_sizeOfSymbolNames (As := []) rfl ⟨(Nat.le_of_ble_eq_true rfl), (Nat.le_of_ble_eq_true rfl), Nat.le_refl _, Nat.le_refl _⟩ (m_MO_sizeOfSymbolNames h) (rest := []) rfl (Nat.le_of_ble_eq_true rfl) dMO_write_260 (gk_i (fun r14 M15 h => ?_))
        refine g_istore X (L' := [(4, .int r14), (0, .ref (base + 41)), (2, .int v2), (3, .int v3), (5, .int v5)]) dMO_write_263 (Nat.le_of_ble_eq_true rfl) rfl ?_
        refine g_iconst X (v := (0 : Int32)) dMO_write_265 (by decide) ?_
        refine g_istore X (L' := [(5, .int (0 : Int32)), (4, .int r14), (0, .ref (base + 41)), (2, .int v2), (3, .int v3)]) dMO_write_266 (Nat.le_of_ble_eq_true rfl) rfl ?_
        refine g_sub (L' := [(0, .ref (base + 41)), (2, .int v2), (3, .int v3), (4, .int r14), (5, .int (0 : Int32))]) [2, 3, 4, 1, 0] rfl ?_
        obtain ⟨n9, h⟩ := h
        exact r_268 n9 v2 v3 r14 (0 : Int32) M15 h
      · have h := h.2 c
        refine g_aload_n X dMO_write_231 rfl 0 rfl ?_
        refine g_getr X hK.1 fw_MO_70 ly_41 rfl dMO_write_232 ?_
        refine g_aload_n X dMO_write_235 rfl 0 rfl ?_
        refine g_getr X hK.1 fw_MO_83 ly_41 rfl dMO_write_236 ?_
        refine g_bipush X (v := (10 : Int32)) dMO_write_239 (by decide) ?_
        obtain ⟨hi, h⟩ := h
        refine g_iald X hK.1 ly_65 hi dMO_write_241 ?_
        refine g_iload X dMO_write_242 4 rfl ?_
        refine g_iadd X dMO_write_244 ?_
        refine g_aload_n X dMO_write_245 rfl 0 rfl ?_
        refine g_getr X hK.1 fw_MO_92 ly_41 rfl dMO_write_246 ?_
        refine g_iload X dMO_write_249 4 rfl ?_
        obtain ⟨hi, h⟩ := h
        refine g_iald X hK.1 ly_68 hi dMO_write_251 ?_
        obtain ⟨hi, h⟩ := h
        refine g_iast X hK.1 ly_62 hi dMO_write_252 ?_
        refine g_topM (fun M22 eM22 => ?_)
        have h := h M22 eM22
        obtain ⟨x23, ex23⟩ : ∃ z : Int32, z = v5 + (1 : Int32) := ⟨_, rfl⟩
        have h := h x23 ex23
        refine g_iinc X (L' := [(5, .int x23), (0, .ref (base + 41)), (2, .int v2), (3, .int v3), (4, .int v4)]) (k := 4) dMO_write_253 rfl (v := x23) (by rw [ex23]; rfl) (Nat.le_of_ble_eq_true rfl) rfl ?_
        refine g_goto X dMO_write_256 ?_
        refine g_sub (L' := [(0, .ref (base + 41)), (2, .int v2), (3, .int v3), (4, .int v4), (5, .int x23)]) [1, 2, 3, 4, 0] rfl ?_
        exact ih v2 v3 v4 x23 M22 h
  have r_193 : ∀ (n : Nat) (v2 : Int32) (v3 : Int32) (v4 : Int32) (M : gMem), wl_MO_write_193 post n v2 v3 v4 M → GMx D ta base p l e 4 90 s m [.ref (base + 41)] below meth c (gPi post) 6 193 [(0, .ref (base + 41)), (2, .int v2), (3, .int v3), (4, .int v4)] [] M := by
    intro n
    induction n with
    | zero => exact fun _ _ _ M h => h.elim
    | succ n ih =>
      intro v2 v3 v4 M h
      refine g_iload X dMO_write_193 3 rfl ?_
      refine g_iconst X (v := (3 : Int32)) dMO_write_195 (by decide) ?_
      refine g_icmp_ge X dMO_write_196 (fun c => ?_) (fun c => ?_)
      · have h := h.1 c
        refine g_aload_n X dMO_write_211 rfl 0 rfl ?_
        refine g_callV X hK gTs_ok ly_41 rfl mw_MO_writeSymbols tw_1192 mi_MO_writeSymbols ms_MO_writeSymbols (As := []) rfl ⟨(Nat.le_of_ble_eq_true rfl), (Nat.le_of_ble_eq_true rfl), Nat.le_refl _, Nat.le_refl _⟩ (m_MO_writeSymbols h) (rest := []) rfl (Nat.le_of_ble_eq_true rfl) dMO_write_212 (gk_v (fun M11 h => ?_))
        refine g_aload_n X dMO_write_215 rfl 0 rfl ?_
        refine g_callV X hK gTs_ok ly_41 rfl mw_MO_sizeOfTitles tw_1159 mi_MO_sizeOfTitles ms_MO_sizeOfTitles (As := []) rfl ⟨(Nat.le_of_ble_eq_true rfl), (Nat.le_of_ble_eq_true rfl), Nat.le_refl _, Nat.le_refl _⟩ (m_MO_sizeOfTitles h) (rest := []) rfl (Nat.le_of_ble_eq_true rfl) dMO_write_216 (gk_i (fun r12 M13 h => ?_))
        refine g_istore X (L' := [(4, .int r12), (0, .ref (base + 41)), (2, .int v2), (3, .int v3)]) dMO_write_219 (Nat.le_of_ble_eq_true rfl) rfl ?_
        refine g_iconst X (v := (0 : Int32)) dMO_write_221 (by decide) ?_
        refine g_istore X (L' := [(5, .int (0 : Int32)), (4, .int r12), (0, .ref (base + 41)), (2, .int v2), (3, .int v3)]) dMO_write_222 (Nat.le_of_ble_eq_true rfl) rfl ?_
        refine g_sub (L' := [(0, .ref (base + 41)), (2, .int v2), (3, .int v3), (4, .int r12), (5, .int (0 : Int32))]) [2, 3, 4, 1, 0] rfl ?_
        obtain ⟨n9, h⟩ := h
        exact r_224 n9 v2 v3 r12 (0 : Int32) M13 h
      · have h := h.2 c
        refine g_aload_n X dMO_write_199 rfl 0 rfl ?_
        refine g_iload X dMO_write_200 3 rfl ?_
        refine g_callV X hK gTs_ok ly_41 rfl mw_MO_writeRelocations tw_1188 mi_MO_writeRelocations ms_MO_writeRelocations (As := [.int v4]) rfl ⟨(Nat.le_of_ble_eq_true rfl), (Nat.le_of_ble_eq_true rfl), Nat.le_refl _, Nat.le_refl _⟩ (m_MO_writeRelocations h) (rest := []) rfl (Nat.le_of_ble_eq_true rfl) dMO_write_202 (gk_v (fun M25 h => ?_))
        obtain ⟨x26, ex26⟩ : ∃ z : Int32, z = v4 + (1 : Int32) := ⟨_, rfl⟩
        have h := h x26 ex26
        refine g_iinc X (L' := [(4, .int x26), (0, .ref (base + 41)), (2, .int v2), (3, .int v3)]) (k := 3) dMO_write_205 rfl (v := x26) (by rw [ex26]; rfl) (Nat.le_of_ble_eq_true rfl) rfl ?_
        refine g_goto X dMO_write_208 ?_
        refine g_sub (L' := [(0, .ref (base + 41)), (2, .int v2), (3, .int v3), (4, .int x26)]) [1, 2, 3, 0] rfl ?_
        exact ih v2 v3 x26 M25 h
  have r_151 : ∀ (n : Nat) (v2 : Int32) (v3 : Int32) (v4 : Int32) (M : gMem), wl_MO_write_151 post n v2 v3 v4 M → GMx D ta base p l e 4 90 s m [.ref (base + 41)] below meth c (gPi post) 6 151 [(0, .ref (base + 41)), (2, .int v2), (3, .int v3), (4, .int v4)] [] M := by
    intro n
    induction n with
    | zero => exact fun _ _ _ M h => h.elim
    | succ n ih =>
      intro v2 v3 v4 M h
      refine g_iload X dMO_write_151 3 rfl ?_
      refine g_aload_n X dMO_write_153 rfl 0 rfl ?_
      refine g_getr X hK.1 fw_MO_22 ly_41 rfl dMO_write_154 ?_
      refine g_iconst X (v := (0 : Int32)) dMO_write_157 (by decide) ?_
      obtain ⟨hi, h⟩ := h
      refine g_iald X hK.1 ly_46 hi dMO_write_158 ?_
      refine g_icmp_ge X dMO_write_159 (fun c => ?_) (fun c => ?_)
      · have h := h.1 c
        refine g_iconst X (v := (0 : Int32)) dMO_write_190 (by decide) ?_
        refine g_istore X (L' := [(4, .int (0 : Int32)), (0, .ref (base + 41)), (2, .int v2), (3, .int v3)]) dMO_write_191 (Nat.le_of_ble_eq_true rfl) rfl ?_
        refine g_sub (L' := [(0, .ref (base + 41)), (2, .int v2), (3, .int v3), (4, .int (0 : Int32))]) [1, 2, 3, 0] rfl ?_
        obtain ⟨n9, h⟩ := h
        exact r_193 n9 v2 v3 (0 : Int32) M h
      · have h := h.2 c
        refine g_aload_n X dMO_write_162 rfl 0 rfl ?_
        refine g_aload_n X dMO_write_163 rfl 0 rfl ?_
        refine g_getr X hK.1 fw_MO_83 ly_41 rfl dMO_write_164 ?_
        refine g_iconst X (v := (4 : Int32)) dMO_write_167 (by decide) ?_
        obtain ⟨hi, h⟩ := h
        refine g_iald X hK.1 ly_65 hi dMO_write_168 ?_
        refine g_iconst X (v := (2 : Int32)) dMO_write_169 (by decide) ?_
        refine g_iload X dMO_write_170 3 rfl ?_
        refine g_imul X dMO_write_172 ?_
        refine g_iadd X dMO_write_173 ?_
        refine g_aload_n X dMO_write_174 rfl 0 rfl ?_
        refine g_getr X hK.1 fw_MO_19 ly_41 rfl dMO_write_175 ?_
        refine g_iload X dMO_write_178 3 rfl ?_
        obtain ⟨hi, h⟩ := h
        refine g_iald X hK.1 ly_45 hi dMO_write_180 ?_
        refine g_callV X hK gTs_ok ly_41 rfl mw_MO_write2 tw_1176 mi_MO_write2 ms_MO_write2 (As := [.int ((M 65 ((4 : Int32)).toNatClampNeg) + ((2 : Int32) * v4)), .int (M 45 (v4).toNatClampNeg)]) rfl ⟨(Nat.le_of_ble_eq_true rfl), (Nat.le_of_ble_eq_true rfl), Nat.le_refl _, Nat.le_refl _⟩ (m_MO_write2 h) (rest := []) rfl (Nat.le_of_ble_eq_true rfl) dMO_write_181 (gk_v (fun M28 h => ?_))
        obtain ⟨x29, ex29⟩ : ∃ z : Int32, z = v4 + (1 : Int32) := ⟨_, rfl⟩
        have h := h x29 ex29
        refine g_iinc X (L' := [(4, .int x29), (0, .ref (base + 41)), (2, .int v2), (3, .int v3)]) (k := 3) dMO_write_184 rfl (v := x29) (by rw [ex29]; rfl) (Nat.le_of_ble_eq_true rfl) rfl ?_
        refine g_goto X dMO_write_187 ?_
        refine g_sub (L' := [(0, .ref (base + 41)), (2, .int v2), (3, .int v3), (4, .int x29)]) [1, 2, 3, 0] rfl ?_
        exact ih v2 v3 x29 M28 h
  have r_95 : ∀ (k86 : Int32 → Int32 → Int32 → gMem → Prop) (hk86 : ∀ (v2 : Int32) (v3 : Int32) (v4 : Int32) (M : gMem), k86 v2 v3 v4 M → GMx D ta base p l e 4 90 s m [.ref (base + 41)] below meth c (gPi post) 6 86 [(0, .ref (base + 41)), (2, .int v2), (3, .int v3), (4, .int v4)] [] M) (n : Nat) (v2 : Int32) (v3 : Int32) (v4 : Int32) (v5 : Int32) (M : gMem), wl_MO_write_95 post k86 n v2 v3 v4 v5 M → GMx D ta base p l e 4 90 s m [.ref (base + 41)] below meth c (gPi post) 6 95 [(0, .ref (base + 41)), (2, .int v2), (3, .int v3), (4, .int v4), (5, .int v5)] [] M := by
    intro k86 hk86 n
    induction n with
    | zero => exact fun _ _ _ _ M h => h.elim
    | succ n ih =>
      intro v2 v3 v4 v5 M h
      refine g_iload X dMO_write_95 4 rfl ?_
      refine g_aload_n X dMO_write_97 rfl 0 rfl ?_
      refine g_getr X hK.1 fw_MO_13 ly_41 rfl dMO_write_98 ?_
      refine g_iload X dMO_write_101 3 rfl ?_
      obtain ⟨hi, h⟩ := h
      refine g_iald X hK.1 ly_43 hi dMO_write_103 ?_
      refine g_icmp_ge X dMO_write_104 (fun c => ?_) (fun c => ?_)
      · have h := h.1 c
        obtain ⟨x30, ex30⟩ : ∃ z : Int32, z = v4 + (1 : Int32) := ⟨_, rfl⟩
        have h := h x30 ex30
        refine g_iinc X (L' := [(4, .int x30), (0, .ref (base + 41)), (2, .int v2), (3, .int v3), (5, .int v5)]) (k := 3) dMO_write_142 rfl (v := x30) (by rw [ex30]; rfl) (Nat.le_of_ble_eq_true rfl) rfl ?_
        refine g_goto X dMO_write_145 ?_
        refine g_sub (L' := [(0, .ref (base + 41)), (2, .int v2), (3, .int v3), (4, .int x30)]) [1, 2, 3, 0] rfl ?_
        exact hk86 v2 v3 x30 M h
      · have h := h.2 c
        refine g_aload_n X dMO_write_107 rfl 0 rfl ?_
        refine g_getr X hK.1 fw_MO_70 ly_41 rfl dMO_write_108 ?_
        refine g_aload_n X dMO_write_111 rfl 0 rfl ?_
        refine g_getr X hK.1 fw_MO_83 ly_41 rfl dMO_write_112 ?_
        refine g_iload X dMO_write_115 3 rfl ?_
        obtain ⟨hi, h⟩ := h
        refine g_iald X hK.1 ly_65 hi dMO_write_117 ?_
        refine g_iload X dMO_write_118 4 rfl ?_
        refine g_iadd X dMO_write_120 ?_
        refine g_aload_n X dMO_write_121 rfl 0 rfl ?_
        refine g_getr X hK.1 fw_MO_7 ly_41 rfl dMO_write_122 ?_
        refine g_sipush X (v := (2048 : Int32)) dMO_write_125 (by decide) ?_
        refine g_iload X dMO_write_128 3 rfl ?_
        refine g_imul X dMO_write_130 ?_
        refine g_iload X dMO_write_131 4 rfl ?_
        refine g_iadd X dMO_write_133 ?_
        obtain ⟨hi, h⟩ := h
        refine g_iald X hK.1 ly_42 hi dMO_write_134 ?_
        obtain ⟨hi, h⟩ := h
        refine g_iast X hK.1 ly_62 hi dMO_write_135 ?_
        refine g_topM (fun M31 eM31 => ?_)
        have h := h M31 eM31
        obtain ⟨x32, ex32⟩ : ∃ z : Int32, z = v5 + (1 : Int32) := ⟨_, rfl⟩
        have h := h x32 ex32
        refine g_iinc X (L' := [(5, .int x32), (0, .ref (base + 41)), (2, .int v2), (3, .int v3), (4, .int v4)]) (k := 4) dMO_write_136 rfl (v := x32) (by rw [ex32]; rfl) (Nat.le_of_ble_eq_true rfl) rfl ?_
        refine g_goto X dMO_write_139 ?_
        refine g_sub (L' := [(0, .ref (base + 41)), (2, .int v2), (3, .int v3), (4, .int v4), (5, .int x32)]) [1, 2, 3, 4, 0] rfl ?_
        exact ih v2 v3 v4 x32 M31 h
  have r_86 : ∀ (n : Nat) (v2 : Int32) (v3 : Int32) (v4 : Int32) (M : gMem), wl_MO_write_86 post n v2 v3 v4 M → GMx D ta base p l e 4 90 s m [.ref (base + 41)] below meth c (gPi post) 6 86 [(0, .ref (base + 41)), (2, .int v2), (3, .int v3), (4, .int v4)] [] M := by
    intro n
    induction n with
    | zero => exact fun _ _ _ M h => h.elim
    | succ n ih =>
      intro v2 v3 v4 M h
      refine g_iload X dMO_write_86 3 rfl ?_
      refine g_iconst X (v := (3 : Int32)) dMO_write_88 (by decide) ?_
      refine g_icmp_ge X dMO_write_89 (fun c => ?_) (fun c => ?_)
      · have h := h.1 c
        refine g_iconst X (v := (0 : Int32)) dMO_write_148 (by decide) ?_
        refine g_istore X (L' := [(4, .int (0 : Int32)), (0, .ref (base + 41)), (2, .int v2), (3, .int v3)]) dMO_write_149 (Nat.le_of_ble_eq_true rfl) rfl ?_
        refine g_sub (L' := [(0, .ref (base + 41)), (2, .int v2), (3, .int v3), (4, .int (0 : Int32))]) [1, 2, 3, 0] rfl ?_
        obtain ⟨n9, h⟩ := h
        exact r_151 n9 v2 v3 (0 : Int32) M h
      · have h := h.2 c
        refine g_iconst X (v := (0 : Int32)) dMO_write_92 (by decide) ?_
        refine g_istore X (L' := [(5, .int (0 : Int32)), (0, .ref (base + 41)), (2, .int v2), (3, .int v3), (4, .int v4)]) dMO_write_93 (Nat.le_of_ble_eq_true rfl) rfl ?_
        refine g_sub (L' := [(0, .ref (base + 41)), (2, .int v2), (3, .int v3), (4, .int v4), (5, .int (0 : Int32))]) [1, 2, 3, 4, 0] rfl ?_
        obtain ⟨n9, h⟩ := h
        exact r_95 _ (ih) n9 v2 v3 v4 (0 : Int32) M h
  have r_55 : ∀ (n : Nat) (v2 : Int32) (v3 : Int32) (v4 : Int32) (M : gMem), wl_MO_write_55 post n v2 v3 v4 M → GMx D ta base p l e 4 90 s m [.ref (base + 41)] below meth c (gPi post) 6 55 [(0, .ref (base + 41)), (2, .int v2), (3, .int v3), (4, .int v4)] [] M := by
    intro n
    induction n with
    | zero => exact fun _ _ _ M h => h.elim
    | succ n ih =>
      intro v2 v3 v4 M h
      refine g_iload X dMO_write_55 3 rfl ?_
      refine g_aload_n X dMO_write_57 rfl 0 rfl ?_
      refine g_geti X hK.1 fw_MO_233 ly_41 rfl dMO_write_58 ?_
      refine g_icmp_ge X dMO_write_61 (fun c => ?_) (fun c => ?_)
      · have h := h.1 c
        refine g_aload_n X dMO_write_78 rfl 0 rfl ?_
        refine g_iload_n X dMO_write_79 rfl 1 rfl ?_
        refine g_callV X hK gTs_ok ly_41 rfl mw_MO_writeHead tw_1167 mi_MO_writeHead ms_MO_writeHead (As := [.int v2]) rfl ⟨(Nat.le_of_ble_eq_true rfl), (Nat.le_of_ble_eq_true rfl), Nat.le_refl _, Nat.le_refl _⟩ (m_MO_writeHead h) (rest := []) rfl (Nat.le_of_ble_eq_true rfl) dMO_write_80 (gk_v (fun M9 h => ?_))
        refine g_iconst X (v := (0 : Int32)) dMO_write_83 (by decide) ?_
        refine g_istore X (L' := [(4, .int (0 : Int32)), (0, .ref (base + 41)), (2, .int v2), (3, .int v3)]) dMO_write_84 (Nat.le_of_ble_eq_true rfl) rfl ?_
        refine g_sub (L' := [(0, .ref (base + 41)), (2, .int v2), (3, .int v3), (4, .int (0 : Int32))]) [1, 2, 3, 0] rfl ?_
        obtain ⟨n9, h⟩ := h
        exact r_86 n9 v2 v3 (0 : Int32) M9 h
      · have h := h.2 c
        refine g_aload_n X dMO_write_64 rfl 0 rfl ?_
        refine g_getr X hK.1 fw_MO_70 ly_41 rfl dMO_write_65 ?_
        refine g_iload X dMO_write_68 3 rfl ?_
        refine g_iconst X (v := (0 : Int32)) dMO_write_70 (by decide) ?_
        obtain ⟨hi, h⟩ := h
        refine g_iast X hK.1 ly_62 hi dMO_write_71 ?_
        refine g_topM (fun M33 eM33 => ?_)
        have h := h M33 eM33
        obtain ⟨x34, ex34⟩ : ∃ z : Int32, z = v4 + (1 : Int32) := ⟨_, rfl⟩
        have h := h x34 ex34
        refine g_iinc X (L' := [(4, .int x34), (0, .ref (base + 41)), (2, .int v2), (3, .int v3)]) (k := 3) dMO_write_72 rfl (v := x34) (by rw [ex34]; rfl) (Nat.le_of_ble_eq_true rfl) rfl ?_
        refine g_goto X dMO_write_75 ?_
        refine g_sub (L' := [(0, .ref (base + 41)), (2, .int v2), (3, .int v3), (4, .int x34)]) [1, 2, 3, 0] rfl ?_
        exact ih v2 v3 x34 M33 h
  refine g_args (L' := [(0, .ref (base + 41))]) rfl ?_
  unfold wp_MO_write at h
  refine g_aload_n X dMO_write_0 rfl 0 rfl ?_
  refine g_callV X hK gTs_ok ly_41 rfl mw_MO_unfit tw_1125 mi_MO_unfit ms_MO_unfit (As := []) rfl ⟨(Nat.le_of_ble_eq_true rfl), (Nat.le_of_ble_eq_true rfl), Nat.le_refl _, Nat.le_refl _⟩ (m_MO_unfit h) (rest := []) rfl (Nat.le_of_ble_eq_true rfl) dMO_write_1 (gk_i (fun r1 M2 h => ?_))
  refine g_istore_n X (L' := [(1, .int r1), (0, .ref (base + 41))]) dMO_write_4 rfl (Nat.le_of_ble_eq_true rfl) rfl ?_
  refine g_iload_n X dMO_write_5 rfl 0 rfl ?_
  refine g_if_eq X dMO_write_6 (fun c => ?_) (fun c => ?_)
  · have h := h.1 c
    refine g_aload_n X dMO_write_11 rfl 1 rfl ?_
    refine g_callV X hK gTs_ok ly_41 rfl mw_MO_lay tw_1132 mi_MO_lay ms_MO_lay (As := []) rfl ⟨(Nat.le_of_ble_eq_true rfl), (Nat.le_of_ble_eq_true rfl), Nat.le_refl _, Nat.le_refl _⟩ (m_MO_lay h) (rest := []) rfl (Nat.le_of_ble_eq_true rfl) dMO_write_12 (gk_i (fun r3 M4 h => ?_))
    refine g_istore_n X (L' := [(2, .int r3), (1, .int r1), (0, .ref (base + 41))]) dMO_write_15 rfl (Nat.le_of_ble_eq_true rfl) rfl ?_
    refine g_iload_n X dMO_write_16 rfl 0 rfl ?_
    refine g_bipush X (v := (40 : Int32)) dMO_write_17 (by decide) ?_
    refine g_aload_n X dMO_write_19 rfl 2 rfl ?_
    refine g_geti X hK.1 fw_MO_195 ly_41 rfl dMO_write_20 ?_
    refine g_imul X dMO_write_23 ?_
    refine g_iadd X dMO_write_24 ?_
    refine g_sipush X (v := (8192 : Int32)) dMO_write_25 (by decide) ?_
    refine g_icmp_le X dMO_write_28 (fun c => ?_) (fun c => ?_)
    · have h := h.1 c
      refine g_aload_n X dMO_write_34 rfl 2 rfl ?_
      refine g_callV X hK gTs_ok ly_41 rfl mw_MO_order tw_1143 mi_MO_order ms_MO_order (As := []) rfl ⟨(Nat.le_of_ble_eq_true rfl), (Nat.le_of_ble_eq_true rfl), Nat.le_refl _, Nat.le_refl _⟩ (m_MO_order h) (rest := []) rfl (Nat.le_of_ble_eq_true rfl) dMO_write_35 (gk_i (fun r5 M6 h => ?_))
      refine g_istore_n X (L' := [(3, .int r5), (2, .int r3), (1, .int r1), (0, .ref (base + 41))]) dMO_write_38 rfl (Nat.le_of_ble_eq_true rfl) rfl ?_
      refine g_aload_n X dMO_write_39 rfl 3 rfl ?_
      refine g_iload_n X dMO_write_40 rfl 1 rfl ?_
      refine g_bipush X (v := (40 : Int32)) dMO_write_41 (by decide) ?_
      refine g_aload_n X dMO_write_43 rfl 3 rfl ?_
      refine g_geti X hK.1 fw_MO_195 ly_41 rfl dMO_write_44 ?_
      refine g_imul X dMO_write_47 ?_
      refine g_iadd X dMO_write_48 ?_
      refine g_puti X hK.1 fw_MO_233 pw_MO_22 ly_41 rfl dMO_write_49 ?_
      refine g_topM (fun M7 eM7 => ?_)
      have h := h M7 eM7
      refine g_iconst X (v := (0 : Int32)) dMO_write_52 (by decide) ?_
      refine g_istore X (L' := [(4, .int (0 : Int32)), (3, .int r5), (2, .int r3), (1, .int r1), (0, .ref (base + 41))]) dMO_write_53 (Nat.le_of_ble_eq_true rfl) rfl ?_
      refine g_sub (L' := [(0, .ref (base + 41)), (2, .int r3), (3, .int r5), (4, .int (0 : Int32))]) [4, 2, 1, 0] rfl ?_
      obtain ⟨n9, h⟩ := h
      exact r_55 n9 r3 r5 (0 : Int32) M7 h
    · have h := h.2 c
      refine g_bipush X (v := (-4 : Int32)) dMO_write_31 (by decide) ?_
      exact g_iret X hr hlk dMO_write_33 ⟨_, rfl, h⟩
  · have h := h.2 c
    refine g_iload_n X dMO_write_9 rfl 0 rfl ?_
    exact g_iret X hr hlk dMO_write_10 ⟨_, rfl, h⟩
set_option maxRecDepth 100000 in
set_option maxHeartbeats 4000000 in
theorem m_MO_size {l : Launch} {D : va_G} {ta : Nat → ClassId} {base : Nat} {sa : Nat → Nat} {post : Int32 → gMem → Prop} {M : gMem} (h : wp_MO_size post M) : GC gLay gCl D ta base gNw sa gTabs gTs l y_MO_size b_MO_size 1 (some .int) 0 0 [.ref (base + 41)] M (gPi post) := by
  refine GC.of (own := "ObjectFileModel") pn_MO rfl (Nat.le_of_ble_eq_true rfl) ?_
  intro p e s m below meth c X hK hr hlk
  refine g_args (L' := [(0, .ref (base + 41))]) rfl ?_
  unfold wp_MO_size at h
  refine g_aload_n X dMO_size_0 rfl 0 rfl ?_
  refine g_geti X hK.1 fw_MO_233 ly_41 rfl dMO_size_1 ?_
  exact g_iret X hr hlk dMO_size_4 ⟨_, rfl, h⟩
set_option maxRecDepth 100000 in
set_option maxHeartbeats 4000000 in
theorem m_MO_byteAt {l : Launch} {D : va_G} {ta : Nat → ClassId} {base : Nat} {sa : Nat → Nat} {post : Int32 → gMem → Prop} {a0 : Int32} {M : gMem} (h : wp_MO_byteAt post a0 M) : GC gLay gCl D ta base gNw sa gTabs gTs l y_MO_byteAt b_MO_byteAt 2 (some .int) 0 0 [.ref (base + 41), .int a0] M (gPi post) := by
  refine GC.of (own := "ObjectFileModel") pn_MO rfl (Nat.le_of_ble_eq_true rfl) ?_
  intro p e s m below meth c X hK hr hlk
  refine g_args (L' := [(0, .ref (base + 41)), (1, .int a0)]) rfl ?_
  unfold wp_MO_byteAt at h
  refine g_iload_n X dMO_byteAt_0 rfl 1 rfl ?_
  refine g_if_lt X dMO_byteAt_1 (fun c => ?_) (fun c => ?_)
  · have h := h.1 c
    refine g_iconst X (v := (-1 : Int32)) dMO_byteAt_21 (by decide) ?_
    exact g_iret X hr hlk dMO_byteAt_22 ⟨_, rfl, h⟩
  · have h := h.2 c
    refine g_iload_n X dMO_byteAt_4 rfl 1 rfl ?_
    refine g_aload_n X dMO_byteAt_5 rfl 0 rfl ?_
    refine g_geti X hK.1 fw_MO_233 ly_41 rfl dMO_byteAt_6 ?_
    refine g_icmp_ge X dMO_byteAt_9 (fun c => ?_) (fun c => ?_)
    · have h := h.1 c
      refine g_iconst X (v := (-1 : Int32)) dMO_byteAt_21 (by decide) ?_
      exact g_iret X hr hlk dMO_byteAt_22 ⟨_, rfl, h⟩
    · have h := h.2 c
      refine g_aload_n X dMO_byteAt_12 rfl 0 rfl ?_
      refine g_getr X hK.1 fw_MO_70 ly_41 rfl dMO_byteAt_13 ?_
      refine g_iload_n X dMO_byteAt_16 rfl 1 rfl ?_
      obtain ⟨hi, h⟩ := h
      refine g_iald X hK.1 ly_62 hi dMO_byteAt_17 ?_
      refine g_goto X dMO_byteAt_18 ?_
      exact g_iret X hr hlk dMO_byteAt_22 ⟨_, rfl, h⟩
set_option maxRecDepth 100000 in
set_option maxHeartbeats 4000000 in
theorem m_MO_feed {l : Launch} {D : va_G} {ta : Nat → ClassId} {base : Nat} {sa : Nat → Nat} {post : Bool → gMem → Prop} {a0 : Int32} {a1 : Int64} {M : gMem} (h : wp_MO_feed post a0 a1 M) : GC gLay gCl D ta base gNw sa gTabs gTs l y_MO_feed b_MO_feed 5 (some .boolean) 1 22 [.ref (base + 41), .int a0, .long a1] M (gPz post) := by
  refine GC.of (own := "ObjectFileModel") pn_MO rfl (Nat.le_of_ble_eq_true rfl) ?_
  intro p e s m below meth c X hK hr hlk
  have r_28 : ∀ (n : Nat) (v1 : Int32) (v2 : Int64) (v4 : Int32) (M : gMem), wl_MO_feed_28 post n v1 v2 v4 M → GMx D ta base p l e 1 22 s m [.ref (base + 41), .int a0, .long a1] below meth c (gPz post) 5 28 [(0, .ref (base + 41)), (1, .int v1), (2, .long v2), (4, .int v4)] [] M := by
    intro n
    induction n with
    | zero => exact fun _ _ _ M h => h.elim
    | succ n ih =>
      intro v1 v2 v4 M h
      refine g_iload X dMO_feed_28 3 rfl ?_
      refine g_iload_n X dMO_feed_30 rfl 1 rfl ?_
      refine g_icmp_ge X dMO_feed_31 (fun c => ?_) (fun c => ?_)
      · have h := h.1 c
        refine g_aload_n X dMO_feed_58 rfl 0 rfl ?_
        refine g_dup X dMO_feed_59 rfl ?_
        refine g_geti X hK.1 fw_MO_233 ly_41 rfl dMO_feed_60 ?_
        refine g_iload_n X dMO_feed_63 rfl 1 rfl ?_
        refine g_iadd X dMO_feed_64 ?_
        refine g_puti X hK.1 fw_MO_233 pw_MO_22 ly_41 rfl dMO_feed_65 ?_
        refine g_topM (fun M1 eM1 => ?_)
        have h := h M1 eM1
        refine g_iconst X (v := (1 : Int32)) dMO_feed_68 (by decide) ?_
        exact g_zret X hr hlk (by decide) dMO_feed_69 ⟨true, rfl, h⟩
      · have h := h.2 c
        refine g_aload_n X dMO_feed_34 rfl 0 rfl ?_
        refine g_getr X hK.1 fw_MO_70 ly_41 rfl dMO_feed_35 ?_
        refine g_aload_n X dMO_feed_38 rfl 0 rfl ?_
        refine g_geti X hK.1 fw_MO_233 ly_41 rfl dMO_feed_39 ?_
        refine g_iload X dMO_feed_42 3 rfl ?_
        refine g_iadd X dMO_feed_44 ?_
        refine g_lload_n X dMO_feed_45 rfl 2 rfl ?_
        refine g_iload X dMO_feed_46 3 rfl ?_
        refine g_callS X hK gTs_ok mw_MO_byteOf tw_1068 mt_MO_byteOf (As := [.long v2, .int v4]) rfl ⟨(Nat.le_of_ble_eq_true rfl), (Nat.le_of_ble_eq_true rfl), Nat.le_refl _, Nat.le_refl _⟩ (m_MO_byteOf h) (rest := [.int ((M 41 22) + v4), .ref (base + 62)]) rfl (Nat.le_of_ble_eq_true rfl) dMO_feed_48 (gk_i (fun r2 M3 h => ?_))
        obtain ⟨hi, h⟩ := h
        refine g_iast X hK.1 ly_62 hi dMO_feed_51 ?_
        refine g_topM (fun M4 eM4 => ?_)
        have h := h M4 eM4
        obtain ⟨x5, ex5⟩ : ∃ z : Int32, z = v4 + (1 : Int32) := ⟨_, rfl⟩
        have h := h x5 ex5
        refine g_iinc X (L' := [(4, .int x5), (0, .ref (base + 41)), (1, .int v1), (2, .long v2)]) (k := 3) dMO_feed_52 rfl (v := x5) (by rw [ex5]; rfl) (Nat.le_of_ble_eq_true rfl) rfl ?_
        refine g_goto X dMO_feed_55 ?_
        refine g_sub (L' := [(0, .ref (base + 41)), (1, .int v1), (2, .long v2), (4, .int x5)]) [1, 2, 3, 0] rfl ?_
        exact ih v1 v2 x5 M4 h
  refine g_args (L' := [(0, .ref (base + 41)), (1, .int a0), (2, .long a1)]) rfl ?_
  unfold wp_MO_feed at h
  refine g_iload_n X dMO_feed_0 rfl 1 rfl ?_
  refine g_iconst X (v := (1 : Int32)) dMO_feed_1 (by decide) ?_
  refine g_icmp_lt X dMO_feed_2 (fun c => ?_) (fun c => ?_)
  · have h := h.1 c
    refine g_iconst X (v := (0 : Int32)) dMO_feed_23 (by decide) ?_
    exact g_zret X hr hlk (by decide) dMO_feed_24 ⟨false, rfl, h⟩
  · have h := h.2 c
    refine g_iload_n X dMO_feed_5 rfl 1 rfl ?_
    refine g_bipush X (v := (8 : Int32)) dMO_feed_6 (by decide) ?_
    refine g_icmp_gt X dMO_feed_8 (fun c => ?_) (fun c => ?_)
    · have h := h.1 c
      refine g_iconst X (v := (0 : Int32)) dMO_feed_23 (by decide) ?_
      exact g_zret X hr hlk (by decide) dMO_feed_24 ⟨false, rfl, h⟩
    · have h := h.2 c
      refine g_aload_n X dMO_feed_11 rfl 0 rfl ?_
      refine g_geti X hK.1 fw_MO_233 ly_41 rfl dMO_feed_12 ?_
      refine g_iload_n X dMO_feed_15 rfl 1 rfl ?_
      refine g_iadd X dMO_feed_16 ?_
      refine g_sipush X (v := (8192 : Int32)) dMO_feed_17 (by decide) ?_
      refine g_icmp_le X dMO_feed_20 (fun c => ?_) (fun c => ?_)
      · have h := h.1 c
        refine g_iconst X (v := (0 : Int32)) dMO_feed_25 (by decide) ?_
        refine g_istore X (L' := [(4, .int (0 : Int32)), (0, .ref (base + 41)), (1, .int a0), (2, .long a1)]) dMO_feed_26 (Nat.le_of_ble_eq_true rfl) rfl ?_
        refine g_sub (L' := [(0, .ref (base + 41)), (1, .int a0), (2, .long a1), (4, .int (0 : Int32))]) [1, 2, 3, 0] rfl ?_
        obtain ⟨n9, h⟩ := h
        exact r_28 n9 a0 a1 (0 : Int32) M h
      · have h := h.2 c
        refine g_iconst X (v := (0 : Int32)) dMO_feed_23 (by decide) ?_
        exact g_zret X hr hlk (by decide) dMO_feed_24 ⟨false, rfl, h⟩
set_option maxRecDepth 100000 in
set_option maxHeartbeats 4000000 in
theorem m_MO_cut {l : Launch} {D : va_G} {ta : Nat → ClassId} {base : Nat} {sa : Nat → Nat} {post : Bool → gMem → Prop} {a0 : Int32} {M : gMem} (h : wp_MO_cut post a0 M) : GC gLay gCl D ta base gNw sa gTabs gTs l y_MO_cut b_MO_cut 2 (some .boolean) 0 0 [.ref (base + 41), .int a0] M (gPz post) := by
  refine GC.of (own := "ObjectFileModel") pn_MO rfl (Nat.le_of_ble_eq_true rfl) ?_
  intro p e s m below meth c X hK hr hlk
  refine g_args (L' := [(0, .ref (base + 41)), (1, .int a0)]) rfl ?_
  unfold wp_MO_cut at h
  refine g_iload_n X dMO_cut_0 rfl 1 rfl ?_
  refine g_if_lt X dMO_cut_1 (fun c => ?_) (fun c => ?_)
  · have h := h.1 c
    refine g_iconst X (v := (0 : Int32)) dMO_cut_12 (by decide) ?_
    exact g_zret X hr hlk (by decide) dMO_cut_13 ⟨false, rfl, h⟩
  · have h := h.2 c
    refine g_iload_n X dMO_cut_4 rfl 1 rfl ?_
    refine g_aload_n X dMO_cut_5 rfl 0 rfl ?_
    refine g_geti X hK.1 fw_MO_233 ly_41 rfl dMO_cut_6 ?_
    refine g_icmp_le X dMO_cut_9 (fun c => ?_) (fun c => ?_)
    · have h := h.1 c
      refine g_aload_n X dMO_cut_14 rfl 0 rfl ?_
      refine g_iload_n X dMO_cut_15 rfl 1 rfl ?_
      refine g_puti X hK.1 fw_MO_233 pw_MO_22 ly_41 rfl dMO_cut_16 ?_
      refine g_topM (fun M1 eM1 => ?_)
      have h := h M1 eM1
      refine g_iconst X (v := (1 : Int32)) dMO_cut_19 (by decide) ?_
      exact g_zret X hr hlk (by decide) dMO_cut_20 ⟨true, rfl, h⟩
    · have h := h.2 c
      refine g_iconst X (v := (0 : Int32)) dMO_cut_12 (by decide) ?_
      exact g_zret X hr hlk (by decide) dMO_cut_13 ⟨false, rfl, h⟩
set_option maxRecDepth 100000 in
set_option maxHeartbeats 4000000 in
theorem m_MO_spoil {l : Launch} {D : va_G} {ta : Nat → ClassId} {base : Nat} {sa : Nat → Nat} {post : Int32 → gMem → Prop} {a0 : Int32} {a1 : Int32} {M : gMem} (h : wp_MO_spoil post a0 a1 M) : GC gLay gCl D ta base gNw sa gTabs gTs l y_MO_spoil b_MO_spoil 4 (some .int) 0 0 [.ref (base + 41), .int a0, .int a1] M (gPi post) := by
  refine GC.of (own := "ObjectFileModel") pn_MO rfl (Nat.le_of_ble_eq_true rfl) ?_
  intro p e s m below meth c X hK hr hlk
  refine g_args (L' := [(0, .ref (base + 41)), (1, .int a0), (2, .int a1)]) rfl ?_
  unfold wp_MO_spoil at h
  refine g_iload_n X dMO_spoil_0 rfl 1 rfl ?_
  refine g_if_lt X dMO_spoil_1 (fun c => ?_) (fun c => ?_)
  · have h := h.1 c
    refine g_iconst X (v := (-1 : Int32)) dMO_spoil_12 (by decide) ?_
    exact g_iret X hr hlk dMO_spoil_13 ⟨_, rfl, h⟩
  · have h := h.2 c
    refine g_iload_n X dMO_spoil_4 rfl 1 rfl ?_
    refine g_aload_n X dMO_spoil_5 rfl 0 rfl ?_
    refine g_geti X hK.1 fw_MO_233 ly_41 rfl dMO_spoil_6 ?_
    refine g_icmp_lt X dMO_spoil_9 (fun c => ?_) (fun c => ?_)
    · have h := h.1 c
      refine g_aload_n X dMO_spoil_14 rfl 0 rfl ?_
      refine g_getr X hK.1 fw_MO_70 ly_41 rfl dMO_spoil_15 ?_
      refine g_iload_n X dMO_spoil_18 rfl 1 rfl ?_
      obtain ⟨hi, h⟩ := h
      refine g_iald X hK.1 ly_62 hi dMO_spoil_19 ?_
      refine g_topi (fun x1 ex1 => ?_)
      have h := h x1 ex1
      refine g_istore_n X (L' := [(3, .int x1), (0, .ref (base + 41)), (1, .int a0), (2, .int a1)]) dMO_spoil_20 rfl (Nat.le_of_ble_eq_true rfl) rfl ?_
      refine g_aload_n X dMO_spoil_21 rfl 1 rfl ?_
      refine g_getr X hK.1 fw_MO_70 ly_41 rfl dMO_spoil_22 ?_
      refine g_iload_n X dMO_spoil_25 rfl 2 rfl ?_
      refine g_iload_n X dMO_spoil_26 rfl 3 rfl ?_
      refine g_sipush X (v := (255 : Int32)) dMO_spoil_27 (by decide) ?_
      refine g_iand X dMO_spoil_30 ?_
      obtain ⟨hi, h⟩ := h
      refine g_iast X hK.1 ly_62 hi dMO_spoil_31 ?_
      refine g_topM (fun M2 eM2 => ?_)
      have h := h M2 eM2
      refine g_iload_n X dMO_spoil_32 rfl 0 rfl ?_
      exact g_iret X hr hlk dMO_spoil_33 ⟨_, rfl, h⟩
    · have h := h.2 c
      refine g_iconst X (v := (-1 : Int32)) dMO_spoil_12 (by decide) ?_
      exact g_iret X hr hlk dMO_spoil_13 ⟨_, rfl, h⟩
set_option maxRecDepth 100000 in
set_option maxHeartbeats 4000000 in
theorem m_MO_read2 {l : Launch} {D : va_G} {ta : Nat → ClassId} {base : Nat} {sa : Nat → Nat} {post : Int32 → gMem → Prop} {a0 : Int32} {M : gMem} (h : wp_MO_read2 post a0 M) : GC gLay gCl D ta base gNw sa gTabs gTs l y_MO_read2 b_MO_read2 2 (some .int) 0 0 [.ref (base + 41), .int a0] M (gPi post) := by
  refine GC.of (own := "ObjectFileModel") pn_MO rfl (Nat.le_of_ble_eq_true rfl) ?_
  intro p e s m below meth c X hK hr hlk
  refine g_args (L' := [(0, .ref (base + 41)), (1, .int a0)]) rfl ?_
  unfold wp_MO_read2 at h
  refine g_aload_n X dMO_read2_0 rfl 0 rfl ?_
  refine g_getr X hK.1 fw_MO_70 ly_41 rfl dMO_read2_1 ?_
  refine g_iload_n X dMO_read2_4 rfl 1 rfl ?_
  obtain ⟨hi, h⟩ := h
  refine g_iald X hK.1 ly_62 hi dMO_read2_5 ?_
  refine g_aload_n X dMO_read2_6 rfl 0 rfl ?_
  refine g_getr X hK.1 fw_MO_70 ly_41 rfl dMO_read2_7 ?_
  refine g_iload_n X dMO_read2_10 rfl 1 rfl ?_
  refine g_iconst X (v := (1 : Int32)) dMO_read2_11 (by decide) ?_
  refine g_iadd X dMO_read2_12 ?_
  obtain ⟨hi, h⟩ := h
  refine g_iald X hK.1 ly_62 hi dMO_read2_13 ?_
  refine g_bipush X (v := (8 : Int32)) dMO_read2_14 (by decide) ?_
  refine g_ishl X dMO_read2_16 ?_
  refine g_ior X dMO_read2_17 ?_
  exact g_iret X hr hlk dMO_read2_18 ⟨_, rfl, h⟩
set_option maxRecDepth 100000 in
set_option maxHeartbeats 4000000 in
theorem m_MO_read4 {l : Launch} {D : va_G} {ta : Nat → ClassId} {base : Nat} {sa : Nat → Nat} {post : Int64 → gMem → Prop} {a0 : Int32} {M : gMem} (h : wp_MO_read4 post a0 M) : GC gLay gCl D ta base gNw sa gTabs gTs l y_MO_read4 b_MO_read4 2 (some .long) 1 21 [.ref (base + 41), .int a0] M (gPl post) := by
  refine GC.of (own := "ObjectFileModel") pn_MO rfl (Nat.le_of_ble_eq_true rfl) ?_
  intro p e s m below meth c X hK hr hlk
  refine g_args (L' := [(0, .ref (base + 41)), (1, .int a0)]) rfl ?_
  unfold wp_MO_read4 at h
  refine g_aload_n X dMO_read4_0 rfl 0 rfl ?_
  refine g_iload_n X dMO_read4_1 rfl 1 rfl ?_
  refine g_callV X hK gTs_ok ly_41 rfl mw_MO_read2 tw_1247 mi_MO_read2 ms_MO_read2 (As := [.int a0]) rfl ⟨(Nat.le_of_ble_eq_true rfl), (Nat.le_of_ble_eq_true rfl), Nat.le_refl _, Nat.le_refl _⟩ (m_MO_read2 h) (rest := []) rfl (Nat.le_of_ble_eq_true rfl) dMO_read4_2 (gk_i (fun r1 M2 h => ?_))
  refine g_i2l X dMO_read4_5 rfl ?_
  refine g_ldc2 X (v := (65536 : Int64)) (tw_1255) dMO_read4_6 ?_
  refine g_aload_n X dMO_read4_9 rfl 0 rfl ?_
  refine g_iload_n X dMO_read4_10 rfl 1 rfl ?_
  refine g_iconst X (v := (2 : Int32)) dMO_read4_11 (by decide) ?_
  refine g_iadd X dMO_read4_12 ?_
  refine g_callV X hK gTs_ok ly_41 rfl mw_MO_read2 tw_1247 mi_MO_read2 ms_MO_read2 (As := [.int (a0 + (2 : Int32))]) rfl ⟨(Nat.le_of_ble_eq_true rfl), (Nat.le_of_ble_eq_true rfl), Nat.le_refl _, Nat.le_refl _⟩ (m_MO_read2 h) (rest := [.long (65536 : Int64), .long (r1.toInt64)]) rfl (Nat.le_of_ble_eq_true rfl) dMO_read4_13 (gk_i (fun r3 M4 h => ?_))
  refine g_i2l X dMO_read4_16 rfl ?_
  refine g_lmul X dMO_read4_17 ?_
  refine g_ladd X dMO_read4_18 ?_
  exact g_lret X hr hlk dMO_read4_19 ⟨_, rfl, h⟩
set_option maxRecDepth 100000 in
set_option maxHeartbeats 4000000 in
theorem m_MO_fault {l : Launch} {D : va_G} {ta : Nat → ClassId} {base : Nat} {sa : Nat → Nat} {post : Int32 → gMem → Prop} {a0 : Int32} {a1 : Int32} {M : gMem} (h : wp_MO_fault post a0 a1 M) : GC gLay gCl D ta base gNw sa gTabs gTs l y_MO_fault b_MO_fault 3 (some .int) 0 0 [.ref (base + 41), .int a0, .int a1] M (gPi post) := by
  refine GC.of (own := "ObjectFileModel") pn_MO rfl (Nat.le_of_ble_eq_true rfl) ?_
  intro p e s m below meth c X hK hr hlk
  refine g_args (L' := [(0, .ref (base + 41)), (1, .int a0), (2, .int a1)]) rfl ?_
  unfold wp_MO_fault at h
  refine g_aload_n X dMO_fault_0 rfl 0 rfl ?_
  refine g_iload_n X dMO_fault_1 rfl 2 rfl ?_
  refine g_puti X hK.1 fw_MO_73 pw_MO_23 ly_41 rfl dMO_fault_2 ?_
  refine g_topM (fun M1 eM1 => ?_)
  have h := h M1 eM1
  refine g_iload_n X dMO_fault_5 rfl 1 rfl ?_
  exact g_iret X hr hlk dMO_fault_6 ⟨_, rfl, h⟩
set_option maxRecDepth 100000 in
set_option maxHeartbeats 4000000 in
theorem m_MO_head {l : Launch} {D : va_G} {ta : Nat → ClassId} {base : Nat} {sa : Nat → Nat} {post : Int32 → gMem → Prop} {M : gMem} (h : wp_MO_head post M) : GC gLay gCl D ta base gNw sa gTabs gTs l y_MO_head b_MO_head 4 (some .int) 2 42 [.ref (base + 41)] M (gPi post) := by
  refine GC.of (own := "ObjectFileModel") pn_MO rfl (Nat.le_of_ble_eq_true rfl) ?_
  intro p e s m below meth c X hK hr hlk
  have r_127 : ∀ (n : Nat) (v1 : Int32) (M : gMem), wl_MO_head_127 post n v1 M → GMx D ta base p l e 2 42 s m [.ref (base + 41)] below meth c (gPi post) 4 127 [(0, .ref (base + 41)), (1, .int v1)] [] M := by
    intro n
    induction n with
    | zero => exact fun _ M h => h.elim
    | succ n ih =>
      intro v1 M h
      refine g_iload_n X dMO_head_127 rfl 1 rfl ?_
      refine g_bipush X (v := (16 : Int32)) dMO_head_128 (by decide) ?_
      refine g_icmp_ge X dMO_head_130 (fun c => ?_) (fun c => ?_)
      · have h := h.1 c
        refine g_aload_n X dMO_head_156 rfl 0 rfl ?_
        refine g_bipush X (v := (16 : Int32)) dMO_head_157 (by decide) ?_
        refine g_callV X hK gTs_ok ly_41 rfl mw_MO_read2 tw_1247 mi_MO_read2 ms_MO_read2 (As := [.int (16 : Int32)]) rfl ⟨(Nat.le_of_ble_eq_true rfl), (Nat.le_of_ble_eq_true rfl), Nat.le_refl _, Nat.le_refl _⟩ (m_MO_read2 h) (rest := []) rfl (Nat.le_of_ble_eq_true rfl) dMO_head_159 (gk_i (fun r1 M2 h => ?_))
        refine g_iconst X (v := (1 : Int32)) dMO_head_162 (by decide) ?_
        refine g_icmp_eq X dMO_head_163 (fun c => ?_) (fun c => ?_)
        · have h := h.1 c
          refine g_aload_n X dMO_head_175 rfl 0 rfl ?_
          refine g_bipush X (v := (18 : Int32)) dMO_head_176 (by decide) ?_
          refine g_callV X hK gTs_ok ly_41 rfl mw_MO_read2 tw_1247 mi_MO_read2 ms_MO_read2 (As := [.int (18 : Int32)]) rfl ⟨(Nat.le_of_ble_eq_true rfl), (Nat.le_of_ble_eq_true rfl), Nat.le_refl _, Nat.le_refl _⟩ (m_MO_read2 h) (rest := []) rfl (Nat.le_of_ble_eq_true rfl) dMO_head_178 (gk_i (fun r3 M4 h => ?_))
          refine g_sipush X (v := (243 : Int32)) dMO_head_181 (by decide) ?_
          refine g_icmp_eq X dMO_head_184 (fun c => ?_) (fun c => ?_)
          · have h := h.1 c
            refine g_aload_n X dMO_head_196 rfl 0 rfl ?_
            refine g_bipush X (v := (20 : Int32)) dMO_head_197 (by decide) ?_
            refine g_callV X hK gTs_ok ly_41 rfl mw_MO_read4 tw_1251 mi_MO_read4 ms_MO_read4 (As := [.int (20 : Int32)]) rfl ⟨(Nat.le_of_ble_eq_true rfl), (Nat.le_of_ble_eq_true rfl), Nat.le_refl _, Nat.le_refl _⟩ (m_MO_read4 h) (rest := []) rfl (Nat.le_of_ble_eq_true rfl) dMO_head_199 (gk_l (fun r5 M6 h => ?_))
            refine g_lconst X (v := (1 : Int64)) dMO_head_202 (by decide) ?_
            refine g_lif_eq X dMO_head_203 dMO_head_204 (fun c => ?_) (fun c => ?_)
            · have h := h.1 c
              refine g_aload_n X dMO_head_216 rfl 0 rfl ?_
              refine g_bipush X (v := (24 : Int32)) dMO_head_217 (by decide) ?_
              refine g_callV X hK gTs_ok ly_41 rfl mw_MO_read4 tw_1251 mi_MO_read4 ms_MO_read4 (As := [.int (24 : Int32)]) rfl ⟨(Nat.le_of_ble_eq_true rfl), (Nat.le_of_ble_eq_true rfl), Nat.le_refl _, Nat.le_refl _⟩ (m_MO_read4 h) (rest := []) rfl (Nat.le_of_ble_eq_true rfl) dMO_head_219 (gk_l (fun r7 M8 h => ?_))
              refine g_lconst X (v := (0 : Int64)) dMO_head_222 (by decide) ?_
              refine g_lif_eq X dMO_head_223 dMO_head_224 (fun c => ?_) (fun c => ?_)
              · have h := h.1 c
                refine g_aload_n X dMO_head_236 rfl 0 rfl ?_
                refine g_bipush X (v := (28 : Int32)) dMO_head_237 (by decide) ?_
                refine g_callV X hK gTs_ok ly_41 rfl mw_MO_read4 tw_1251 mi_MO_read4 ms_MO_read4 (As := [.int (28 : Int32)]) rfl ⟨(Nat.le_of_ble_eq_true rfl), (Nat.le_of_ble_eq_true rfl), Nat.le_refl _, Nat.le_refl _⟩ (m_MO_read4 h) (rest := []) rfl (Nat.le_of_ble_eq_true rfl) dMO_head_239 (gk_l (fun r9 M10 h => ?_))
                refine g_lconst X (v := (0 : Int64)) dMO_head_242 (by decide) ?_
                refine g_lif_eq X dMO_head_243 dMO_head_244 (fun c => ?_) (fun c => ?_)
                · have h := h.1 c
                  refine g_aload_n X dMO_head_256 rfl 0 rfl ?_
                  refine g_bipush X (v := (32 : Int32)) dMO_head_257 (by decide) ?_
                  refine g_callV X hK gTs_ok ly_41 rfl mw_MO_read4 tw_1251 mi_MO_read4 ms_MO_read4 (As := [.int (32 : Int32)]) rfl ⟨(Nat.le_of_ble_eq_true rfl), (Nat.le_of_ble_eq_true rfl), Nat.le_refl _, Nat.le_refl _⟩ (m_MO_read4 h) (rest := []) rfl (Nat.le_of_ble_eq_true rfl) dMO_head_259 (gk_l (fun r11 M12 h => ?_))
                  refine g_lstore_n X (L' := [(1, .long r11), (0, .ref (base + 41))]) dMO_head_262 rfl (Nat.le_of_ble_eq_true rfl) rfl ?_
                  refine g_lload_n X dMO_head_263 rfl 0 rfl ?_
                  refine g_ldc2 X (v := (4 : Int64)) (tw_1256) dMO_head_264 ?_
                  refine g_lrem X dMO_head_267 (by decide) ?_
                  refine g_lconst X (v := (0 : Int64)) dMO_head_268 (by decide) ?_
                  refine g_lif_ne X dMO_head_269 dMO_head_270 (fun c => ?_) (fun c => ?_)
                  · have h := h.1 c
                    refine g_aload_n X dMO_head_281 rfl 1 rfl ?_
                    refine g_bipush X (v := (9 : Int32)) dMO_head_282 (by decide) ?_
                    refine g_bipush X (v := (32 : Int32)) dMO_head_284 (by decide) ?_
                    refine g_callV X hK gTs_ok ly_41 rfl mw_MO_fault tw_1243 mi_MO_fault ms_MO_fault (As := [.int (9 : Int32), .int (32 : Int32)]) rfl ⟨(Nat.le_of_ble_eq_true rfl), (Nat.le_of_ble_eq_true rfl), Nat.le_refl _, Nat.le_refl _⟩ (m_MO_fault h) (rest := []) rfl (Nat.le_of_ble_eq_true rfl) dMO_head_286 (gk_i (fun r13 M14 h => ?_))
                    exact g_iret X hr hlk dMO_head_289 ⟨_, rfl, h⟩
                  · have h := h.2 c
                    refine g_lload_n X dMO_head_273 rfl 0 rfl ?_
                    refine g_ldc2 X (v := (52 : Int64)) (tw_1257) dMO_head_274 ?_
                    refine g_lif_ge X dMO_head_277 dMO_head_278 (fun c => ?_) (fun c => ?_)
                    · have h := h.1 c
                      refine g_aload_n X dMO_head_290 rfl 1 rfl ?_
                      refine g_bipush X (v := (36 : Int32)) dMO_head_291 (by decide) ?_
                      refine g_callV X hK gTs_ok ly_41 rfl mw_MO_read4 tw_1251 mi_MO_read4 ms_MO_read4 (As := [.int (36 : Int32)]) rfl ⟨(Nat.le_of_ble_eq_true rfl), (Nat.le_of_ble_eq_true rfl), Nat.le_refl _, Nat.le_refl _⟩ (m_MO_read4 h) (rest := []) rfl (Nat.le_of_ble_eq_true rfl) dMO_head_293 (gk_l (fun r15 M16 h => ?_))
                      refine g_lconst X (v := (1 : Int64)) dMO_head_296 (by decide) ?_
                      refine g_lif_le X dMO_head_297 dMO_head_298 (fun c => ?_) (fun c => ?_)
                      · have h := h.1 c
                        refine g_aload_n X dMO_head_310 rfl 1 rfl ?_
                        refine g_bipush X (v := (40 : Int32)) dMO_head_311 (by decide) ?_
                        refine g_callV X hK gTs_ok ly_41 rfl mw_MO_read2 tw_1247 mi_MO_read2 ms_MO_read2 (As := [.int (40 : Int32)]) rfl ⟨(Nat.le_of_ble_eq_true rfl), (Nat.le_of_ble_eq_true rfl), Nat.le_refl _, Nat.le_refl _⟩ (m_MO_read2 h) (rest := []) rfl (Nat.le_of_ble_eq_true rfl) dMO_head_313 (gk_i (fun r17 M18 h => ?_))
                        refine g_bipush X (v := (52 : Int32)) dMO_head_316 (by decide) ?_
                        refine g_icmp_eq X dMO_head_318 (fun c => ?_) (fun c => ?_)
                        · have h := h.1 c
                          refine g_aload_n X dMO_head_330 rfl 1 rfl ?_
                          refine g_bipush X (v := (42 : Int32)) dMO_head_331 (by decide) ?_
                          refine g_callV X hK gTs_ok ly_41 rfl mw_MO_read2 tw_1247 mi_MO_read2 ms_MO_read2 (As := [.int (42 : Int32)]) rfl ⟨(Nat.le_of_ble_eq_true rfl), (Nat.le_of_ble_eq_true rfl), Nat.le_refl _, Nat.le_refl _⟩ (m_MO_read2 h) (rest := []) rfl (Nat.le_of_ble_eq_true rfl) dMO_head_333 (gk_i (fun r19 M20 h => ?_))
                          refine g_if_eq X dMO_head_336 (fun c => ?_) (fun c => ?_)
                          · have h := h.1 c
                            refine g_aload_n X dMO_head_348 rfl 1 rfl ?_
                            refine g_bipush X (v := (44 : Int32)) dMO_head_349 (by decide) ?_
                            refine g_callV X hK gTs_ok ly_41 rfl mw_MO_read2 tw_1247 mi_MO_read2 ms_MO_read2 (As := [.int (44 : Int32)]) rfl ⟨(Nat.le_of_ble_eq_true rfl), (Nat.le_of_ble_eq_true rfl), Nat.le_refl _, Nat.le_refl _⟩ (m_MO_read2 h) (rest := []) rfl (Nat.le_of_ble_eq_true rfl) dMO_head_351 (gk_i (fun r21 M22 h => ?_))
                            refine g_if_eq X dMO_head_354 (fun c => ?_) (fun c => ?_)
                            · have h := h.1 c
                              refine g_aload_n X dMO_head_366 rfl 1 rfl ?_
                              refine g_bipush X (v := (46 : Int32)) dMO_head_367 (by decide) ?_
                              refine g_callV X hK gTs_ok ly_41 rfl mw_MO_read2 tw_1247 mi_MO_read2 ms_MO_read2 (As := [.int (46 : Int32)]) rfl ⟨(Nat.le_of_ble_eq_true rfl), (Nat.le_of_ble_eq_true rfl), Nat.le_refl _, Nat.le_refl _⟩ (m_MO_read2 h) (rest := []) rfl (Nat.le_of_ble_eq_true rfl) dMO_head_369 (gk_i (fun r23 M24 h => ?_))
                              refine g_bipush X (v := (40 : Int32)) dMO_head_372 (by decide) ?_
                              refine g_icmp_eq X dMO_head_374 (fun c => ?_) (fun c => ?_)
                              · have h := h.1 c
                                refine g_aload_n X dMO_head_386 rfl 1 rfl ?_
                                refine g_aload_n X dMO_head_387 rfl 1 rfl ?_
                                refine g_bipush X (v := (48 : Int32)) dMO_head_388 (by decide) ?_
                                refine g_callV X hK gTs_ok ly_41 rfl mw_MO_read2 tw_1247 mi_MO_read2 ms_MO_read2 (As := [.int (48 : Int32)]) rfl ⟨(Nat.le_of_ble_eq_true rfl), (Nat.le_of_ble_eq_true rfl), Nat.le_refl _, Nat.le_refl _⟩ (m_MO_read2 h) (rest := [.ref (base + 41)]) rfl (Nat.le_of_ble_eq_true rfl) dMO_head_390 (gk_i (fun r25 M26 h => ?_))
                                refine g_puti X hK.1 fw_MO_195 pw_MO_40 ly_41 rfl dMO_head_393 ?_
                                refine g_topM (fun M27 eM27 => ?_)
                                have h := h M27 eM27
                                refine g_aload_n X dMO_head_396 rfl 1 rfl ?_
                                refine g_geti X hK.1 fw_MO_195 ly_41 rfl dMO_head_397 ?_
                                refine g_iconst X (v := (1 : Int32)) dMO_head_400 (by decide) ?_
                                refine g_icmp_lt X dMO_head_401 (fun c => ?_) (fun c => ?_)
                                · have h := h.1 c
                                  refine g_aload_n X dMO_head_413 rfl 1 rfl ?_
                                  refine g_bipush X (v := (9 : Int32)) dMO_head_414 (by decide) ?_
                                  refine g_bipush X (v := (48 : Int32)) dMO_head_416 (by decide) ?_
                                  refine g_callV X hK gTs_ok ly_41 rfl mw_MO_fault tw_1243 mi_MO_fault ms_MO_fault (As := [.int (9 : Int32), .int (48 : Int32)]) rfl ⟨(Nat.le_of_ble_eq_true rfl), (Nat.le_of_ble_eq_true rfl), Nat.le_refl _, Nat.le_refl _⟩ (m_MO_fault h) (rest := []) rfl (Nat.le_of_ble_eq_true rfl) dMO_head_418 (gk_i (fun r28 M29 h => ?_))
                                  exact g_iret X hr hlk dMO_head_421 ⟨_, rfl, h⟩
                                · have h := h.2 c
                                  refine g_aload_n X dMO_head_404 rfl 1 rfl ?_
                                  refine g_geti X hK.1 fw_MO_195 ly_41 rfl dMO_head_405 ?_
                                  refine g_bipush X (v := (16 : Int32)) dMO_head_408 (by decide) ?_
                                  refine g_icmp_le X dMO_head_410 (fun c => ?_) (fun c => ?_)
                                  · have h := h.1 c
                                    refine g_aload_n X dMO_head_422 rfl 1 rfl ?_
                                    refine g_bipush X (v := (50 : Int32)) dMO_head_423 (by decide) ?_
                                    refine g_callV X hK gTs_ok ly_41 rfl mw_MO_read2 tw_1247 mi_MO_read2 ms_MO_read2 (As := [.int (50 : Int32)]) rfl ⟨(Nat.le_of_ble_eq_true rfl), (Nat.le_of_ble_eq_true rfl), Nat.le_refl _, Nat.le_refl _⟩ (m_MO_read2 h) (rest := []) rfl (Nat.le_of_ble_eq_true rfl) dMO_head_425 (gk_i (fun r30 M31 h => ?_))
                                    refine g_istore_n X (L' := [(3, .int r30), (1, .long r11), (0, .ref (base + 41))]) dMO_head_428 rfl (Nat.le_of_ble_eq_true rfl) rfl ?_
                                    refine g_iload_n X dMO_head_429 rfl 0 rfl ?_
                                    refine g_iconst X (v := (1 : Int32)) dMO_head_430 (by decide) ?_
                                    refine g_icmp_lt X dMO_head_431 (fun c => ?_) (fun c => ?_)
                                    · have h := h.1 c
                                      refine g_aload_n X dMO_head_442 rfl 2 rfl ?_
                                      refine g_bipush X (v := (9 : Int32)) dMO_head_443 (by decide) ?_
                                      refine g_bipush X (v := (50 : Int32)) dMO_head_445 (by decide) ?_
                                      refine g_callV X hK gTs_ok ly_41 rfl mw_MO_fault tw_1243 mi_MO_fault ms_MO_fault (As := [.int (9 : Int32), .int (50 : Int32)]) rfl ⟨(Nat.le_of_ble_eq_true rfl), (Nat.le_of_ble_eq_true rfl), Nat.le_refl _, Nat.le_refl _⟩ (m_MO_fault h) (rest := []) rfl (Nat.le_of_ble_eq_true rfl) dMO_head_447 (gk_i (fun r32 M33 h => ?_))
                                      exact g_iret X hr hlk dMO_head_450 ⟨_, rfl, h⟩
                                    · have h := h.2 c
                                      refine g_iload_n X dMO_head_434 rfl 0 rfl ?_
                                      refine g_aload_n X dMO_head_435 rfl 2 rfl ?_
                                      refine g_geti X hK.1 fw_MO_195 ly_41 rfl dMO_head_436 ?_
                                      refine g_icmp_lt X dMO_head_439 (fun c => ?_) (fun c => ?_)
                                      · have h := h.1 c
                                        refine g_lload_n X dMO_head_451 rfl 1 rfl ?_
                                        refine g_ldc2 X (v := (40 : Int64)) (tw_1258) dMO_head_452 ?_
                                        refine g_aload_n X dMO_head_455 rfl 2 rfl ?_
                                        refine g_geti X hK.1 fw_MO_195 ly_41 rfl dMO_head_456 ?_
                                        refine g_i2l X dMO_head_459 rfl ?_
                                        refine g_lmul X dMO_head_460 ?_
                                        refine g_ladd X dMO_head_461 ?_
                                        refine g_aload_n X dMO_head_462 rfl 2 rfl ?_
                                        refine g_geti X hK.1 fw_MO_233 ly_41 rfl dMO_head_463 ?_
                                        refine g_i2l X dMO_head_466 rfl ?_
                                        refine g_lif_le X dMO_head_467 dMO_head_468 (fun c => ?_) (fun c => ?_)
                                        · have h := h.1 c
                                          refine g_aload_n X dMO_head_480 rfl 2 rfl ?_
                                          refine g_lload_n X dMO_head_481 rfl 1 rfl ?_
                                          refine g_l2i X dMO_head_482 rfl ?_
                                          refine g_puti X hK.1 fw_MO_254 pw_MO_39 ly_41 rfl dMO_head_483 ?_
                                          refine g_topM (fun M34 eM34 => ?_)
                                          have h := h M34 eM34
                                          refine g_iconst X (v := (0 : Int32)) dMO_head_486 (by decide) ?_
                                          exact g_iret X hr hlk dMO_head_487 ⟨_, rfl, h⟩
                                        · have h := h.2 c
                                          refine g_aload_n X dMO_head_471 rfl 2 rfl ?_
                                          refine g_bipush X (v := (10 : Int32)) dMO_head_472 (by decide) ?_
                                          refine g_bipush X (v := (32 : Int32)) dMO_head_474 (by decide) ?_
                                          refine g_callV X hK gTs_ok ly_41 rfl mw_MO_fault tw_1243 mi_MO_fault ms_MO_fault (As := [.int (10 : Int32), .int (32 : Int32)]) rfl ⟨(Nat.le_of_ble_eq_true rfl), (Nat.le_of_ble_eq_true rfl), Nat.le_refl _, Nat.le_refl _⟩ (m_MO_fault h) (rest := []) rfl (Nat.le_of_ble_eq_true rfl) dMO_head_476 (gk_i (fun r35 M36 h => ?_))
                                          exact g_iret X hr hlk dMO_head_479 ⟨_, rfl, h⟩
                                      · have h := h.2 c
                                        refine g_aload_n X dMO_head_442 rfl 2 rfl ?_
                                        refine g_bipush X (v := (9 : Int32)) dMO_head_443 (by decide) ?_
                                        refine g_bipush X (v := (50 : Int32)) dMO_head_445 (by decide) ?_
                                        refine g_callV X hK gTs_ok ly_41 rfl mw_MO_fault tw_1243 mi_MO_fault ms_MO_fault (As := [.int (9 : Int32), .int (50 : Int32)]) rfl ⟨(Nat.le_of_ble_eq_true rfl), (Nat.le_of_ble_eq_true rfl), Nat.le_refl _, Nat.le_refl _⟩ (m_MO_fault h) (rest := []) rfl (Nat.le_of_ble_eq_true rfl) dMO_head_447 (gk_i (fun r37 M38 h => ?_))
                                        exact g_iret X hr hlk dMO_head_450 ⟨_, rfl, h⟩
                                  · have h := h.2 c
                                    refine g_aload_n X dMO_head_413 rfl 1 rfl ?_
                                    refine g_bipush X (v := (9 : Int32)) dMO_head_414 (by decide) ?_
                                    refine g_bipush X (v := (48 : Int32)) dMO_head_416 (by decide) ?_
                                    refine g_callV X hK gTs_ok ly_41 rfl mw_MO_fault tw_1243 mi_MO_fault ms_MO_fault (As := [.int (9 : Int32), .int (48 : Int32)]) rfl ⟨(Nat.le_of_ble_eq_true rfl), (Nat.le_of_ble_eq_true rfl), Nat.le_refl _, Nat.le_refl _⟩ (m_MO_fault h) (rest := []) rfl (Nat.le_of_ble_eq_true rfl) dMO_head_418 (gk_i (fun r39 M40 h => ?_))
                                    exact g_iret X hr hlk dMO_head_421 ⟨_, rfl, h⟩
                              · have h := h.2 c
                                refine g_aload_n X dMO_head_377 rfl 1 rfl ?_
                                refine g_bipush X (v := (9 : Int32)) dMO_head_378 (by decide) ?_
                                refine g_bipush X (v := (46 : Int32)) dMO_head_380 (by decide) ?_
                                refine g_callV X hK gTs_ok ly_41 rfl mw_MO_fault tw_1243 mi_MO_fault ms_MO_fault (As := [.int (9 : Int32), .int (46 : Int32)]) rfl ⟨(Nat.le_of_ble_eq_true rfl), (Nat.le_of_ble_eq_true rfl), Nat.le_refl _, Nat.le_refl _⟩ (m_MO_fault h) (rest := []) rfl (Nat.le_of_ble_eq_true rfl) dMO_head_382 (gk_i (fun r41 M42 h => ?_))
                                exact g_iret X hr hlk dMO_head_385 ⟨_, rfl, h⟩
                            · have h := h.2 c
                              refine g_aload_n X dMO_head_357 rfl 1 rfl ?_
                              refine g_bipush X (v := (9 : Int32)) dMO_head_358 (by decide) ?_
                              refine g_bipush X (v := (44 : Int32)) dMO_head_360 (by decide) ?_
                              refine g_callV X hK gTs_ok ly_41 rfl mw_MO_fault tw_1243 mi_MO_fault ms_MO_fault (As := [.int (9 : Int32), .int (44 : Int32)]) rfl ⟨(Nat.le_of_ble_eq_true rfl), (Nat.le_of_ble_eq_true rfl), Nat.le_refl _, Nat.le_refl _⟩ (m_MO_fault h) (rest := []) rfl (Nat.le_of_ble_eq_true rfl) dMO_head_362 (gk_i (fun r43 M44 h => ?_))
                              exact g_iret X hr hlk dMO_head_365 ⟨_, rfl, h⟩
                          · have h := h.2 c
                            refine g_aload_n X dMO_head_339 rfl 1 rfl ?_
                            refine g_bipush X (v := (9 : Int32)) dMO_head_340 (by decide) ?_
                            refine g_bipush X (v := (42 : Int32)) dMO_head_342 (by decide) ?_
                            refine g_callV X hK gTs_ok ly_41 rfl mw_MO_fault tw_1243 mi_MO_fault ms_MO_fault (As := [.int (9 : Int32), .int (42 : Int32)]) rfl ⟨(Nat.le_of_ble_eq_true rfl), (Nat.le_of_ble_eq_true rfl), Nat.le_refl _, Nat.le_refl _⟩ (m_MO_fault h) (rest := []) rfl (Nat.le_of_ble_eq_true rfl) dMO_head_344 (gk_i (fun r45 M46 h => ?_))
                            exact g_iret X hr hlk dMO_head_347 ⟨_, rfl, h⟩
                        · have h := h.2 c
                          refine g_aload_n X dMO_head_321 rfl 1 rfl ?_
                          refine g_bipush X (v := (9 : Int32)) dMO_head_322 (by decide) ?_
                          refine g_bipush X (v := (40 : Int32)) dMO_head_324 (by decide) ?_
                          refine g_callV X hK gTs_ok ly_41 rfl mw_MO_fault tw_1243 mi_MO_fault ms_MO_fault (As := [.int (9 : Int32), .int (40 : Int32)]) rfl ⟨(Nat.le_of_ble_eq_true rfl), (Nat.le_of_ble_eq_true rfl), Nat.le_refl _, Nat.le_refl _⟩ (m_MO_fault h) (rest := []) rfl (Nat.le_of_ble_eq_true rfl) dMO_head_326 (gk_i (fun r47 M48 h => ?_))
                          exact g_iret X hr hlk dMO_head_329 ⟨_, rfl, h⟩
                      · have h := h.2 c
                        refine g_aload_n X dMO_head_301 rfl 1 rfl ?_
                        refine g_bipush X (v := (9 : Int32)) dMO_head_302 (by decide) ?_
                        refine g_bipush X (v := (36 : Int32)) dMO_head_304 (by decide) ?_
                        refine g_callV X hK gTs_ok ly_41 rfl mw_MO_fault tw_1243 mi_MO_fault ms_MO_fault (As := [.int (9 : Int32), .int (36 : Int32)]) rfl ⟨(Nat.le_of_ble_eq_true rfl), (Nat.le_of_ble_eq_true rfl), Nat.le_refl _, Nat.le_refl _⟩ (m_MO_fault h) (rest := []) rfl (Nat.le_of_ble_eq_true rfl) dMO_head_306 (gk_i (fun r49 M50 h => ?_))
                        exact g_iret X hr hlk dMO_head_309 ⟨_, rfl, h⟩
                    · have h := h.2 c
                      refine g_aload_n X dMO_head_281 rfl 1 rfl ?_
                      refine g_bipush X (v := (9 : Int32)) dMO_head_282 (by decide) ?_
                      refine g_bipush X (v := (32 : Int32)) dMO_head_284 (by decide) ?_
                      refine g_callV X hK gTs_ok ly_41 rfl mw_MO_fault tw_1243 mi_MO_fault ms_MO_fault (As := [.int (9 : Int32), .int (32 : Int32)]) rfl ⟨(Nat.le_of_ble_eq_true rfl), (Nat.le_of_ble_eq_true rfl), Nat.le_refl _, Nat.le_refl _⟩ (m_MO_fault h) (rest := []) rfl (Nat.le_of_ble_eq_true rfl) dMO_head_286 (gk_i (fun r51 M52 h => ?_))
                      exact g_iret X hr hlk dMO_head_289 ⟨_, rfl, h⟩
                · have h := h.2 c
                  refine g_aload_n X dMO_head_247 rfl 0 rfl ?_
                  refine g_bipush X (v := (9 : Int32)) dMO_head_248 (by decide) ?_
                  refine g_bipush X (v := (28 : Int32)) dMO_head_250 (by decide) ?_
                  refine g_callV X hK gTs_ok ly_41 rfl mw_MO_fault tw_1243 mi_MO_fault ms_MO_fault (As := [.int (9 : Int32), .int (28 : Int32)]) rfl ⟨(Nat.le_of_ble_eq_true rfl), (Nat.le_of_ble_eq_true rfl), Nat.le_refl _, Nat.le_refl _⟩ (m_MO_fault h) (rest := []) rfl (Nat.le_of_ble_eq_true rfl) dMO_head_252 (gk_i (fun r53 M54 h => ?_))
                  exact g_iret X hr hlk dMO_head_255 ⟨_, rfl, h⟩
              · have h := h.2 c
                refine g_aload_n X dMO_head_227 rfl 0 rfl ?_
                refine g_bipush X (v := (9 : Int32)) dMO_head_228 (by decide) ?_
                refine g_bipush X (v := (24 : Int32)) dMO_head_230 (by decide) ?_
                refine g_callV X hK gTs_ok ly_41 rfl mw_MO_fault tw_1243 mi_MO_fault ms_MO_fault (As := [.int (9 : Int32), .int (24 : Int32)]) rfl ⟨(Nat.le_of_ble_eq_true rfl), (Nat.le_of_ble_eq_true rfl), Nat.le_refl _, Nat.le_refl _⟩ (m_MO_fault h) (rest := []) rfl (Nat.le_of_ble_eq_true rfl) dMO_head_232 (gk_i (fun r55 M56 h => ?_))
                exact g_iret X hr hlk dMO_head_235 ⟨_, rfl, h⟩
            · have h := h.2 c
              refine g_aload_n X dMO_head_207 rfl 0 rfl ?_
              refine g_bipush X (v := (9 : Int32)) dMO_head_208 (by decide) ?_
              refine g_bipush X (v := (20 : Int32)) dMO_head_210 (by decide) ?_
              refine g_callV X hK gTs_ok ly_41 rfl mw_MO_fault tw_1243 mi_MO_fault ms_MO_fault (As := [.int (9 : Int32), .int (20 : Int32)]) rfl ⟨(Nat.le_of_ble_eq_true rfl), (Nat.le_of_ble_eq_true rfl), Nat.le_refl _, Nat.le_refl _⟩ (m_MO_fault h) (rest := []) rfl (Nat.le_of_ble_eq_true rfl) dMO_head_212 (gk_i (fun r57 M58 h => ?_))
              exact g_iret X hr hlk dMO_head_215 ⟨_, rfl, h⟩
          · have h := h.2 c
            refine g_aload_n X dMO_head_187 rfl 0 rfl ?_
            refine g_bipush X (v := (8 : Int32)) dMO_head_188 (by decide) ?_
            refine g_bipush X (v := (18 : Int32)) dMO_head_190 (by decide) ?_
            refine g_callV X hK gTs_ok ly_41 rfl mw_MO_fault tw_1243 mi_MO_fault ms_MO_fault (As := [.int (8 : Int32), .int (18 : Int32)]) rfl ⟨(Nat.le_of_ble_eq_true rfl), (Nat.le_of_ble_eq_true rfl), Nat.le_refl _, Nat.le_refl _⟩ (m_MO_fault h) (rest := []) rfl (Nat.le_of_ble_eq_true rfl) dMO_head_192 (gk_i (fun r59 M60 h => ?_))
            exact g_iret X hr hlk dMO_head_195 ⟨_, rfl, h⟩
        · have h := h.2 c
          refine g_aload_n X dMO_head_166 rfl 0 rfl ?_
          refine g_bipush X (v := (7 : Int32)) dMO_head_167 (by decide) ?_
          refine g_bipush X (v := (16 : Int32)) dMO_head_169 (by decide) ?_
          refine g_callV X hK gTs_ok ly_41 rfl mw_MO_fault tw_1243 mi_MO_fault ms_MO_fault (As := [.int (7 : Int32), .int (16 : Int32)]) rfl ⟨(Nat.le_of_ble_eq_true rfl), (Nat.le_of_ble_eq_true rfl), Nat.le_refl _, Nat.le_refl _⟩ (m_MO_fault h) (rest := []) rfl (Nat.le_of_ble_eq_true rfl) dMO_head_171 (gk_i (fun r61 M62 h => ?_))
          exact g_iret X hr hlk dMO_head_174 ⟨_, rfl, h⟩
      · have h := h.2 c
        refine g_aload_n X dMO_head_133 rfl 0 rfl ?_
        refine g_getr X hK.1 fw_MO_70 ly_41 rfl dMO_head_134 ?_
        refine g_iload_n X dMO_head_137 rfl 1 rfl ?_
        obtain ⟨hi, h⟩ := h
        refine g_iald X hK.1 ly_62 hi dMO_head_138 ?_
        refine g_if_eq X dMO_head_139 (fun c => ?_) (fun c => ?_)
        · have h := h.1 c
          obtain ⟨x63, ex63⟩ : ∃ z : Int32, z = v1 + (1 : Int32) := ⟨_, rfl⟩
          have h := h x63 ex63
          refine g_iinc X (L' := [(1, .int x63), (0, .ref (base + 41))]) (k := 1) dMO_head_150 rfl (v := x63) (by rw [ex63]; rfl) (Nat.le_of_ble_eq_true rfl) rfl ?_
          refine g_goto X dMO_head_153 ?_
          refine g_sub (L' := [(0, .ref (base + 41)), (1, .int x63)]) [1, 0] rfl ?_
          exact ih x63 M h
        · have h := h.2 c
          refine g_aload_n X dMO_head_142 rfl 0 rfl ?_
          refine g_bipush X (v := (6 : Int32)) dMO_head_143 (by decide) ?_
          refine g_iload_n X dMO_head_145 rfl 1 rfl ?_
          refine g_callV X hK gTs_ok ly_41 rfl mw_MO_fault tw_1243 mi_MO_fault ms_MO_fault (As := [.int (6 : Int32), .int v1]) rfl ⟨(Nat.le_of_ble_eq_true rfl), (Nat.le_of_ble_eq_true rfl), Nat.le_refl _, Nat.le_refl _⟩ (m_MO_fault h) (rest := []) rfl (Nat.le_of_ble_eq_true rfl) dMO_head_146 (gk_i (fun r64 M65 h => ?_))
          exact g_iret X hr hlk dMO_head_149 ⟨_, rfl, h⟩
  have r_93 : ∀ (n : Nat) (v1 : Int32) (M : gMem), wl_MO_head_93 post n v1 M → GMx D ta base p l e 2 42 s m [.ref (base + 41)] below meth c (gPi post) 4 93 [(0, .ref (base + 41)), (1, .int v1)] [] M := by
    intro n
    induction n with
    | zero => exact fun _ M h => h.elim
    | succ n ih =>
      intro v1 M h
      refine g_iload_n X dMO_head_93 rfl 1 rfl ?_
      refine g_bipush X (v := (7 : Int32)) dMO_head_94 (by decide) ?_
      refine g_icmp_ge X dMO_head_96 (fun c => ?_) (fun c => ?_)
      · have h := h.1 c
        refine g_bipush X (v := (7 : Int32)) dMO_head_124 (by decide) ?_
        refine g_istore_n X (L' := [(1, .int (7 : Int32)), (0, .ref (base + 41))]) dMO_head_126 rfl (Nat.le_of_ble_eq_true rfl) rfl ?_
        refine g_sub (L' := [(0, .ref (base + 41)), (1, .int (7 : Int32))]) [1, 0] rfl ?_
        obtain ⟨n9, h⟩ := h
        exact r_127 n9 (7 : Int32) M h
      · have h := h.2 c
        refine g_aload_n X dMO_head_99 rfl 0 rfl ?_
        refine g_getr X hK.1 fw_MO_70 ly_41 rfl dMO_head_100 ?_
        refine g_iload_n X dMO_head_103 rfl 1 rfl ?_
        obtain ⟨hi, h⟩ := h
        refine g_iald X hK.1 ly_62 hi dMO_head_104 ?_
        refine g_iconst X (v := (1 : Int32)) dMO_head_105 (by decide) ?_
        refine g_icmp_eq X dMO_head_106 (fun c => ?_) (fun c => ?_)
        · have h := h.1 c
          obtain ⟨x66, ex66⟩ : ∃ z : Int32, z = v1 + (1 : Int32) := ⟨_, rfl⟩
          have h := h x66 ex66
          refine g_iinc X (L' := [(1, .int x66), (0, .ref (base + 41))]) (k := 1) dMO_head_118 rfl (v := x66) (by rw [ex66]; rfl) (Nat.le_of_ble_eq_true rfl) rfl ?_
          refine g_goto X dMO_head_121 ?_
          refine g_sub (L' := [(0, .ref (base + 41)), (1, .int x66)]) [1, 0] rfl ?_
          exact ih x66 M h
        · have h := h.2 c
          refine g_aload_n X dMO_head_109 rfl 0 rfl ?_
          refine g_iload_n X dMO_head_110 rfl 1 rfl ?_
          refine g_iconst X (v := (1 : Int32)) dMO_head_111 (by decide) ?_
          refine g_isub X dMO_head_112 ?_
          refine g_iload_n X dMO_head_113 rfl 1 rfl ?_
          refine g_callV X hK gTs_ok ly_41 rfl mw_MO_fault tw_1243 mi_MO_fault ms_MO_fault (As := [.int (v1 - (1 : Int32)), .int v1]) rfl ⟨(Nat.le_of_ble_eq_true rfl), (Nat.le_of_ble_eq_true rfl), Nat.le_refl _, Nat.le_refl _⟩ (m_MO_fault h) (rest := []) rfl (Nat.le_of_ble_eq_true rfl) dMO_head_114 (gk_i (fun r67 M68 h => ?_))
          exact g_iret X hr hlk dMO_head_117 ⟨_, rfl, h⟩
  refine g_args (L' := [(0, .ref (base + 41))]) rfl ?_
  unfold wp_MO_head at h
  refine g_aload_n X dMO_head_0 rfl 0 rfl ?_
  refine g_geti X hK.1 fw_MO_233 ly_41 rfl dMO_head_1 ?_
  refine g_bipush X (v := (52 : Int32)) dMO_head_4 (by decide) ?_
  refine g_icmp_ge X dMO_head_6 (fun c => ?_) (fun c => ?_)
  · have h := h.1 c
    refine g_aload_n X dMO_head_19 rfl 0 rfl ?_
    refine g_getr X hK.1 fw_MO_70 ly_41 rfl dMO_head_20 ?_
    refine g_iconst X (v := (0 : Int32)) dMO_head_23 (by decide) ?_
    obtain ⟨hi, h⟩ := h
    refine g_iald X hK.1 ly_62 hi dMO_head_24 ?_
    refine g_bipush X (v := (127 : Int32)) dMO_head_25 (by decide) ?_
    refine g_icmp_eq X dMO_head_27 (fun c => ?_) (fun c => ?_)
    · have h := h.1 c
      refine g_aload_n X dMO_head_37 rfl 0 rfl ?_
      refine g_getr X hK.1 fw_MO_70 ly_41 rfl dMO_head_38 ?_
      refine g_iconst X (v := (1 : Int32)) dMO_head_41 (by decide) ?_
      obtain ⟨hi, h⟩ := h
      refine g_iald X hK.1 ly_62 hi dMO_head_42 ?_
      refine g_bipush X (v := (69 : Int32)) dMO_head_43 (by decide) ?_
      refine g_icmp_eq X dMO_head_45 (fun c => ?_) (fun c => ?_)
      · have h := h.1 c
        refine g_aload_n X dMO_head_55 rfl 0 rfl ?_
        refine g_getr X hK.1 fw_MO_70 ly_41 rfl dMO_head_56 ?_
        refine g_iconst X (v := (2 : Int32)) dMO_head_59 (by decide) ?_
        obtain ⟨hi, h⟩ := h
        refine g_iald X hK.1 ly_62 hi dMO_head_60 ?_
        refine g_bipush X (v := (76 : Int32)) dMO_head_61 (by decide) ?_
        refine g_icmp_eq X dMO_head_63 (fun c => ?_) (fun c => ?_)
        · have h := h.1 c
          refine g_aload_n X dMO_head_73 rfl 0 rfl ?_
          refine g_getr X hK.1 fw_MO_70 ly_41 rfl dMO_head_74 ?_
          refine g_iconst X (v := (3 : Int32)) dMO_head_77 (by decide) ?_
          obtain ⟨hi, h⟩ := h
          refine g_iald X hK.1 ly_62 hi dMO_head_78 ?_
          refine g_bipush X (v := (70 : Int32)) dMO_head_79 (by decide) ?_
          refine g_icmp_eq X dMO_head_81 (fun c => ?_) (fun c => ?_)
          · have h := h.1 c
            refine g_iconst X (v := (4 : Int32)) dMO_head_91 (by decide) ?_
            refine g_istore_n X (L' := [(1, .int (4 : Int32)), (0, .ref (base + 41))]) dMO_head_92 rfl (Nat.le_of_ble_eq_true rfl) rfl ?_
            refine g_sub (L' := [(0, .ref (base + 41)), (1, .int (4 : Int32))]) [1, 0] rfl ?_
            obtain ⟨n9, h⟩ := h
            exact r_93 n9 (4 : Int32) M h
          · have h := h.2 c
            refine g_aload_n X dMO_head_84 rfl 0 rfl ?_
            refine g_iconst X (v := (2 : Int32)) dMO_head_85 (by decide) ?_
            refine g_iconst X (v := (3 : Int32)) dMO_head_86 (by decide) ?_
            refine g_callV X hK gTs_ok ly_41 rfl mw_MO_fault tw_1243 mi_MO_fault ms_MO_fault (As := [.int (2 : Int32), .int (3 : Int32)]) rfl ⟨(Nat.le_of_ble_eq_true rfl), (Nat.le_of_ble_eq_true rfl), Nat.le_refl _, Nat.le_refl _⟩ (m_MO_fault h) (rest := []) rfl (Nat.le_of_ble_eq_true rfl) dMO_head_87 (gk_i (fun r69 M70 h => ?_))
            exact g_iret X hr hlk dMO_head_90 ⟨_, rfl, h⟩
        · have h := h.2 c
          refine g_aload_n X dMO_head_66 rfl 0 rfl ?_
          refine g_iconst X (v := (2 : Int32)) dMO_head_67 (by decide) ?_
          refine g_iconst X (v := (2 : Int32)) dMO_head_68 (by decide) ?_
          refine g_callV X hK gTs_ok ly_41 rfl mw_MO_fault tw_1243 mi_MO_fault ms_MO_fault (As := [.int (2 : Int32), .int (2 : Int32)]) rfl ⟨(Nat.le_of_ble_eq_true rfl), (Nat.le_of_ble_eq_true rfl), Nat.le_refl _, Nat.le_refl _⟩ (m_MO_fault h) (rest := []) rfl (Nat.le_of_ble_eq_true rfl) dMO_head_69 (gk_i (fun r71 M72 h => ?_))
          exact g_iret X hr hlk dMO_head_72 ⟨_, rfl, h⟩
      · have h := h.2 c
        refine g_aload_n X dMO_head_48 rfl 0 rfl ?_
        refine g_iconst X (v := (2 : Int32)) dMO_head_49 (by decide) ?_
        refine g_iconst X (v := (1 : Int32)) dMO_head_50 (by decide) ?_
        refine g_callV X hK gTs_ok ly_41 rfl mw_MO_fault tw_1243 mi_MO_fault ms_MO_fault (As := [.int (2 : Int32), .int (1 : Int32)]) rfl ⟨(Nat.le_of_ble_eq_true rfl), (Nat.le_of_ble_eq_true rfl), Nat.le_refl _, Nat.le_refl _⟩ (m_MO_fault h) (rest := []) rfl (Nat.le_of_ble_eq_true rfl) dMO_head_51 (gk_i (fun r73 M74 h => ?_))
        exact g_iret X hr hlk dMO_head_54 ⟨_, rfl, h⟩
    · have h := h.2 c
      refine g_aload_n X dMO_head_30 rfl 0 rfl ?_
      refine g_iconst X (v := (2 : Int32)) dMO_head_31 (by decide) ?_
      refine g_iconst X (v := (0 : Int32)) dMO_head_32 (by decide) ?_
      refine g_callV X hK gTs_ok ly_41 rfl mw_MO_fault tw_1243 mi_MO_fault ms_MO_fault (As := [.int (2 : Int32), .int (0 : Int32)]) rfl ⟨(Nat.le_of_ble_eq_true rfl), (Nat.le_of_ble_eq_true rfl), Nat.le_refl _, Nat.le_refl _⟩ (m_MO_fault h) (rest := []) rfl (Nat.le_of_ble_eq_true rfl) dMO_head_33 (gk_i (fun r75 M76 h => ?_))
      exact g_iret X hr hlk dMO_head_36 ⟨_, rfl, h⟩
  · have h := h.2 c
    refine g_aload_n X dMO_head_9 rfl 0 rfl ?_
    refine g_iconst X (v := (1 : Int32)) dMO_head_10 (by decide) ?_
    refine g_aload_n X dMO_head_11 rfl 0 rfl ?_
    refine g_geti X hK.1 fw_MO_233 ly_41 rfl dMO_head_12 ?_
    refine g_callV X hK gTs_ok ly_41 rfl mw_MO_fault tw_1243 mi_MO_fault ms_MO_fault (As := [.int (1 : Int32), .int (M 41 22)]) rfl ⟨(Nat.le_of_ble_eq_true rfl), (Nat.le_of_ble_eq_true rfl), Nat.le_refl _, Nat.le_refl _⟩ (m_MO_fault h) (rest := []) rfl (Nat.le_of_ble_eq_true rfl) dMO_head_15 (gk_i (fun r77 M78 h => ?_))
    exact g_iret X hr hlk dMO_head_18 ⟨_, rfl, h⟩
set_option maxRecDepth 100000 in
set_option maxHeartbeats 4000000 in
theorem m_MO_spotOf {l : Launch} {D : va_G} {ta : Nat → ClassId} {base : Nat} {sa : Nat → Nat} {post : Int32 → gMem → Prop} {a0 : Int32} {a1 : Int32} {M : gMem} (h : wp_MO_spotOf post a0 a1 M) : GC gLay gCl D ta base gNw sa gTabs gTs l y_MO_spotOf b_MO_spotOf 3 (some .int) 0 0 [.ref (base + 41), .int a0, .int a1] M (gPi post) := by
  refine GC.of (own := "ObjectFileModel") pn_MO rfl (Nat.le_of_ble_eq_true rfl) ?_
  intro p e s m below meth c X hK hr hlk
  refine g_args (L' := [(0, .ref (base + 41)), (1, .int a0), (2, .int a1)]) rfl ?_
  unfold wp_MO_spotOf at h
  refine g_aload_n X dMO_spotOf_0 rfl 0 rfl ?_
  refine g_geti X hK.1 fw_MO_254 ly_41 rfl dMO_spotOf_1 ?_
  refine g_bipush X (v := (40 : Int32)) dMO_spotOf_4 (by decide) ?_
  refine g_iload_n X dMO_spotOf_6 rfl 1 rfl ?_
  refine g_imul X dMO_spotOf_7 ?_
  refine g_iadd X dMO_spotOf_8 ?_
  refine g_iconst X (v := (4 : Int32)) dMO_spotOf_9 (by decide) ?_
  refine g_iload_n X dMO_spotOf_10 rfl 2 rfl ?_
  refine g_imul X dMO_spotOf_11 ?_
  refine g_iadd X dMO_spotOf_12 ?_
  exact g_iret X hr hlk dMO_spotOf_13 ⟨_, rfl, h⟩
set_option maxRecDepth 100000 in
set_option maxHeartbeats 4000000 in
theorem m_MO_told {l : Launch} {D : va_G} {ta : Nat → ClassId} {base : Nat} {sa : Nat → Nat} {post : Int64 → gMem → Prop} {a0 : Int32} {a1 : Int32} {M : gMem} (h : wp_MO_told post a0 a1 M) : GC gLay gCl D ta base gNw sa gTabs gTs l y_MO_told b_MO_told 3 (some .long) 2 42 [.ref (base + 41), .int a0, .int a1] M (gPl post) := by
  refine GC.of (own := "ObjectFileModel") pn_MO rfl (Nat.le_of_ble_eq_true rfl) ?_
  intro p e s m below meth c X hK hr hlk
  refine g_args (L' := [(0, .ref (base + 41)), (1, .int a0), (2, .int a1)]) rfl ?_
  unfold wp_MO_told at h
  refine g_aload_n X dMO_told_0 rfl 0 rfl ?_
  refine g_aload_n X dMO_told_1 rfl 0 rfl ?_
  refine g_iload_n X dMO_told_2 rfl 1 rfl ?_
  refine g_iload_n X dMO_told_3 rfl 2 rfl ?_
  refine g_callV X hK gTs_ok ly_41 rfl mw_MO_spotOf tw_1267 mi_MO_spotOf ms_MO_spotOf (As := [.int a0, .int a1]) rfl ⟨(Nat.le_of_ble_eq_true rfl), (Nat.le_of_ble_eq_true rfl), Nat.le_refl _, Nat.le_refl _⟩ (m_MO_spotOf h) (rest := [.ref (base + 41)]) rfl (Nat.le_of_ble_eq_true rfl) dMO_told_4 (gk_i (fun r1 M2 h => ?_))
  refine g_callV X hK gTs_ok ly_41 rfl mw_MO_read4 tw_1251 mi_MO_read4 ms_MO_read4 (As := [.int r1]) rfl ⟨(Nat.le_of_ble_eq_true rfl), (Nat.le_of_ble_eq_true rfl), Nat.le_refl _, Nat.le_refl _⟩ (m_MO_read4 h) (rest := []) rfl (Nat.le_of_ble_eq_true rfl) dMO_told_7 (gk_l (fun r3 M4 h => ?_))
  exact g_lret X hr hlk dMO_told_10 ⟨_, rfl, h⟩
set_option maxRecDepth 100000 in
set_option maxHeartbeats 4000000 in
theorem m_MO_isTitle {l : Launch} {D : va_G} {ta : Nat → ClassId} {base : Nat} {sa : Nat → Nat} {post : Bool → gMem → Prop} {a0 : Int32} {a1 : Int32} {M : gMem} (h : wp_MO_isTitle post a0 a1 M) : GC gLay gCl D ta base gNw sa gTabs gTs l y_MO_isTitle b_MO_isTitle 4 (some .boolean) 0 0 [.ref (base + 41), .int a0, .int a1] M (gPz post) := by
  refine GC.of (own := "ObjectFileModel") pn_MO rfl (Nat.le_of_ble_eq_true rfl) ?_
  intro p e s m below meth c X hK hr hlk
  have r_48 : ∀ (v1 : Int32) (v2 : Int32) (v3 : Int32) (M : gMem), wj_MO_isTitle_48 post v1 v2 v3 M → GMx D ta base p l e 0 0 s m [.ref (base + 41), .int a0, .int a1] below meth c (gPz post) 4 48 [(0, .ref (base + 41)), (1, .int v1), (2, .int v2), (3, .int v3)] [] M := by
    intro v1 v2 v3 M h
    unfold wj_MO_isTitle_48 at h
    refine g_aload_n X dMO_isTitle_48 rfl 0 rfl ?_
    refine g_getr X hK.1 fw_MO_77 ly_41 rfl dMO_isTitle_49 ?_
    refine g_aload_n X dMO_isTitle_52 rfl 0 rfl ?_
    refine g_getr X hK.1 fw_MO_80 ly_41 rfl dMO_isTitle_53 ?_
    refine g_iload_n X dMO_isTitle_56 rfl 1 rfl ?_
    obtain ⟨hi, h⟩ := h
    refine g_iald X hK.1 ly_64 hi dMO_isTitle_57 ?_
    refine g_iload_n X dMO_isTitle_58 rfl 3 rfl ?_
    refine g_iadd X dMO_isTitle_59 ?_
    obtain ⟨hi, h⟩ := h
    refine g_iald X hK.1 ly_63 hi dMO_isTitle_60 ?_
    refine g_if_ne X dMO_isTitle_61 (fun c => ?_) (fun c => ?_)
    · have h := h.1 c
      refine g_iconst X (v := (0 : Int32)) dMO_isTitle_79 (by decide) ?_
      exact g_zret X hr hlk (by decide) dMO_isTitle_80 ⟨false, rfl, h⟩
    · have h := h.2 c
      refine g_aload_n X dMO_isTitle_64 rfl 0 rfl ?_
      refine g_getr X hK.1 fw_MO_70 ly_41 rfl dMO_isTitle_65 ?_
      refine g_iload_n X dMO_isTitle_68 rfl 2 rfl ?_
      refine g_iload_n X dMO_isTitle_69 rfl 3 rfl ?_
      refine g_iadd X dMO_isTitle_70 ?_
      obtain ⟨hi, h⟩ := h
      refine g_iald X hK.1 ly_62 hi dMO_isTitle_71 ?_
      refine g_if_ne X dMO_isTitle_72 (fun c => ?_) (fun c => ?_)
      · have h := h.1 c
        refine g_iconst X (v := (0 : Int32)) dMO_isTitle_79 (by decide) ?_
        exact g_zret X hr hlk (by decide) dMO_isTitle_80 ⟨false, rfl, h⟩
      · have h := h.2 c
        refine g_iconst X (v := (1 : Int32)) dMO_isTitle_75 (by decide) ?_
        refine g_goto X dMO_isTitle_76 ?_
        exact g_zret X hr hlk (by decide) dMO_isTitle_80 ⟨true, rfl, h⟩
  have r_2 : ∀ (n : Nat) (v1 : Int32) (v2 : Int32) (v3 : Int32) (M : gMem), wl_MO_isTitle_2 post n v1 v2 v3 M → GMx D ta base p l e 0 0 s m [.ref (base + 41), .int a0, .int a1] below meth c (gPz post) 4 2 [(0, .ref (base + 41)), (1, .int v1), (2, .int v2), (3, .int v3)] [] M := by
    intro n
    induction n with
    | zero => exact fun _ _ _ M h => h.elim
    | succ n ih =>
      intro v1 v2 v3 M h
      refine g_aload_n X dMO_isTitle_2 rfl 0 rfl ?_
      refine g_getr X hK.1 fw_MO_77 ly_41 rfl dMO_isTitle_3 ?_
      refine g_aload_n X dMO_isTitle_6 rfl 0 rfl ?_
      refine g_getr X hK.1 fw_MO_80 ly_41 rfl dMO_isTitle_7 ?_
      refine g_iload_n X dMO_isTitle_10 rfl 1 rfl ?_
      obtain ⟨hi, h⟩ := h
      refine g_iald X hK.1 ly_64 hi dMO_isTitle_11 ?_
      refine g_iload_n X dMO_isTitle_12 rfl 3 rfl ?_
      refine g_iadd X dMO_isTitle_13 ?_
      obtain ⟨hi, h⟩ := h
      refine g_iald X hK.1 ly_63 hi dMO_isTitle_14 ?_
      refine g_if_eq X dMO_isTitle_15 (fun c => ?_) (fun c => ?_)
      · have h := h.1 c
        exact r_48 v1 v2 v3 M h
      · have h := h.2 c
        refine g_aload_n X dMO_isTitle_18 rfl 0 rfl ?_
        refine g_getr X hK.1 fw_MO_70 ly_41 rfl dMO_isTitle_19 ?_
        refine g_iload_n X dMO_isTitle_22 rfl 2 rfl ?_
        refine g_iload_n X dMO_isTitle_23 rfl 3 rfl ?_
        refine g_iadd X dMO_isTitle_24 ?_
        obtain ⟨hi, h⟩ := h
        refine g_iald X hK.1 ly_62 hi dMO_isTitle_25 ?_
        refine g_aload_n X dMO_isTitle_26 rfl 0 rfl ?_
        refine g_getr X hK.1 fw_MO_77 ly_41 rfl dMO_isTitle_27 ?_
        refine g_aload_n X dMO_isTitle_30 rfl 0 rfl ?_
        refine g_getr X hK.1 fw_MO_80 ly_41 rfl dMO_isTitle_31 ?_
        refine g_iload_n X dMO_isTitle_34 rfl 1 rfl ?_
        obtain ⟨hi, h⟩ := h
        refine g_iald X hK.1 ly_64 hi dMO_isTitle_35 ?_
        refine g_iload_n X dMO_isTitle_36 rfl 3 rfl ?_
        refine g_iadd X dMO_isTitle_37 ?_
        obtain ⟨hi, h⟩ := h
        refine g_iald X hK.1 ly_63 hi dMO_isTitle_38 ?_
        refine g_icmp_ne X dMO_isTitle_39 (fun c => ?_) (fun c => ?_)
        · have h := h.1 c
          exact r_48 v1 v2 v3 M h
        · have h := h.2 c
          obtain ⟨x1, ex1⟩ : ∃ z : Int32, z = v3 + (1 : Int32) := ⟨_, rfl⟩
          have h := h x1 ex1
          refine g_iinc X (L' := [(3, .int x1), (0, .ref (base + 41)), (1, .int v1), (2, .int v2)]) (k := 3) dMO_isTitle_42 rfl (v := x1) (by rw [ex1]; rfl) (Nat.le_of_ble_eq_true rfl) rfl ?_
          refine g_goto X dMO_isTitle_45 ?_
          refine g_sub (L' := [(0, .ref (base + 41)), (1, .int v1), (2, .int v2), (3, .int x1)]) [1, 2, 3, 0] rfl ?_
          exact ih v1 v2 x1 M h
  refine g_args (L' := [(0, .ref (base + 41)), (1, .int a0), (2, .int a1)]) rfl ?_
  unfold wp_MO_isTitle at h
  refine g_iconst X (v := (0 : Int32)) dMO_isTitle_0 (by decide) ?_
  refine g_istore_n X (L' := [(3, .int (0 : Int32)), (0, .ref (base + 41)), (1, .int a0), (2, .int a1)]) dMO_isTitle_1 rfl (Nat.le_of_ble_eq_true rfl) rfl ?_
  refine g_sub (L' := [(0, .ref (base + 41)), (1, .int a0), (2, .int a1), (3, .int (0 : Int32))]) [1, 2, 3, 0] rfl ?_
  obtain ⟨n9, h⟩ := h
  exact r_2 n9 a0 a1 (0 : Int32) M h
