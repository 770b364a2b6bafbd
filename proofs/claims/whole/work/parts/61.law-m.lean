set_option maxRecDepth 100000 in
set_option maxHeartbeats 4000000 in
theorem m_LW_law {l : Launch} {D : va_G} {ta : Nat → ClassId} {base : Nat} {sa : Nat → Nat} {p : Program} {e : Env} {s : State} {m : MethodId} {below : List Frame} {meth : Method} {c : Code} {b n0 : Nat} {xs : Nat → Int32} {M : gMem} {post : gMem → Prop} (hs : base = s.heap.size) (X : CallFix p m c code 4 s #[Value.ref b] gTs "ObjectFileLaw") (hK : gK gCl D ta base gNw sa gTabs s) (hr : meth.sig.returnType = ret) (hlk : meth.locks = false) (hX : va_X b n0 xs s s.heap) (hbl : b < s.heap.size) (h : wp_LW_law post xs n0 M) : GW gLay gCl D ta base p l e room_1 s m #[Value.ref b] below meth c 75 66336 (lw_Z below #[Value.ref b] s) 4 16 [(2, .ref (base + 41)), (1, .ref (base + 0)), (0, .ref b)] [] M := by
  have hbA : ¬ base ≤ b := by omega
  have r_18 : ∀ (n : Nat) (v3 : Int32) (M : gMem), wl_LW_law_18 post xs n0 n v3 M → GW gLay gCl D ta base p l e room_1 s m #[Value.ref b] below meth c 75 66336 (lw_Z below #[Value.ref b] s) 4 18 [(0, .ref b), (1, .ref (base + 0)), (2, .ref (base + 41)), (3, .int v3)] [] M := by
    intro n
    induction n with
    | zero => exact fun _ M h => h.elim
    | succ n ih =>
      intro v3 M h
      refine g_iload_n X dLW_law_18 rfl 3 rfl ?_
      refine g_aload_n X dLW_law_19 rfl 0 rfl ?_
      refine g_sln X hX hbl hbA dLW_law_20 ?_
      refine g_bipush X (v := (6 : Int32)) dLW_law_21 (by decide) ?_
      refine g_isub X dLW_law_23 ?_
      refine g_icmp_gt X dLW_law_24 (fun c => ?_) (fun c => ?_)
      · have h := h.1 c
        refine g_iconst X (v := (1 : Int32)) dLW_law_841 (by decide) ?_
        exact g_lawret hs X hr hlk dLW_law_842
      · have h := h.2 c
        refine g_aload_n X dLW_law_27 rfl 0 rfl ?_
        refine g_iload_n X dLW_law_28 rfl 3 rfl ?_
        obtain ⟨hi, h⟩ := h
        refine g_sld X hX hbl hbA hi dLW_law_29 ?_
        refine g_bipush X (v := (31 : Int32)) dLW_law_30 (by decide) ?_
        refine g_iand X dLW_law_32 ?_
        refine g_table X (dt := 835) [((0 : Int32), 140), ((1 : Int32), 151), ((2 : Int32), 224), ((3 : Int32), 247), ((4 : Int32), 280), ((5 : Int32), 303), ((6 : Int32), 326), ((7 : Int32), 389), ((8 : Int32), 452), ((9 : Int32), 465), ((10 : Int32), 478), ((11 : Int32), 501), ((12 : Int32), 564), ((13 : Int32), 587), ((14 : Int32), 620), ((15 : Int32), 633), ((16 : Int32), 646), ((17 : Int32), 657), ((18 : Int32), 690), ((19 : Int32), 723), ((20 : Int32), 746), ((21 : Int32), 769), ((22 : Int32), 802)] dLW_law_33.1 (by decide +kernel) (by decide) (by decide) ?_
        refine gSw_cons (fun c => ?_) (fun c => ?_)
        · have h := h.1 c
          refine g_aload_n X dLW_law_140 rfl 1 rfl ?_
          refine g_callV X hK gTs_ok ly_0 rfl mw_OF_clear tw_261 mi_OF_clear ms_OF_clear (As := []) rfl ⟨(Nat.le_of_ble_eq_true rfl), (Nat.le_of_ble_eq_true rfl), Nat.le_refl _, Nat.le_refl _⟩ (m_OF_clear h) (rest := []) rfl (Nat.le_of_ble_eq_true rfl) dLW_law_141 (gk_v (fun M2 h => ?_))
          refine g_aload_n X dLW_law_144 rfl 2 rfl ?_
          refine g_callV X hK gTs_ok ly_41 rfl mw_MO_clear tw_1060 mi_MO_clear ms_MO_clear (As := []) rfl ⟨(Nat.le_of_ble_eq_true rfl), (Nat.le_of_ble_eq_true rfl), Nat.le_refl _, Nat.le_refl _⟩ (m_MO_clear h) (rest := []) rfl (Nat.le_of_ble_eq_true rfl) dLW_law_145 (gk_v (fun M4 h => ?_))
          refine g_goto X dLW_law_148 ?_
          obtain ⟨x5, ex5⟩ : ∃ z : Int32, z = v3 + (6 : Int32) := ⟨_, rfl⟩
          have h := h x5 ex5
          refine g_iinc X (L' := [(3, .int x5), (0, .ref b), (1, .ref (base + 0)), (2, .ref (base + 41))]) (k := 3) dLW_law_835 rfl (v := x5) (by rw [ex5]; rfl) (Nat.le_of_ble_eq_true rfl) rfl ?_
          refine g_goto X dLW_law_838 ?_
          refine g_sub (L' := [(0, .ref b), (1, .ref (base + 0)), (2, .ref (base + 41)), (3, .int x5)]) [1, 2, 3, 0] rfl ?_
          exact ih x5 M4 h
        · have h := h.2 c
          refine gSw_cons (fun c => ?_) (fun c => ?_)
          · have h := h.1 c
            refine g_aload_n X dLW_law_151 rfl 1 rfl ?_
            refine g_aload_n X dLW_law_152 rfl 0 rfl ?_
            refine g_iload_n X dLW_law_153 rfl 3 rfl ?_
            refine g_iconst X (v := (1 : Int32)) dLW_law_154 (by decide) ?_
            refine g_iadd X dLW_law_155 ?_
            obtain ⟨hi, h⟩ := h
            refine g_sld X hX hbl hbA hi dLW_law_156 ?_
            refine g_aload_n X dLW_law_157 rfl 0 rfl ?_
            refine g_iload_n X dLW_law_158 rfl 3 rfl ?_
            refine g_iconst X (v := (2 : Int32)) dLW_law_159 (by decide) ?_
            refine g_iadd X dLW_law_160 ?_
            obtain ⟨hi, h⟩ := h
            refine g_sld X hX hbl hbA hi dLW_law_161 ?_
            refine g_aload_n X dLW_law_162 rfl 0 rfl ?_
            refine g_iload_n X dLW_law_163 rfl 3 rfl ?_
            refine g_iconst X (v := (3 : Int32)) dLW_law_164 (by decide) ?_
            refine g_iadd X dLW_law_165 ?_
            obtain ⟨hi, h⟩ := h
            refine g_sld X hX hbl hbA hi dLW_law_166 ?_
            refine g_i2l X dLW_law_167 rfl ?_
            refine g_bipush X (v := (32 : Int32)) dLW_law_168 (by decide) ?_
            refine g_lshl X dLW_law_170 rfl ?_
            refine g_aload_n X dLW_law_171 rfl 0 rfl ?_
            refine g_iload_n X dLW_law_172 rfl 3 rfl ?_
            refine g_iconst X (v := (4 : Int32)) dLW_law_173 (by decide) ?_
            refine g_iadd X dLW_law_174 ?_
            obtain ⟨hi, h⟩ := h
            refine g_sld X hX hbl hbA hi dLW_law_175 ?_
            refine g_i2l X dLW_law_176 rfl ?_
            refine g_ldc2 X (v := (4294967295 : Int64)) (tw_1401) dLW_law_177 ?_
            refine g_land X dLW_law_180 ?_
            refine g_lor X dLW_law_181 ?_
            refine g_callV X hK gTs_ok ly_0 rfl mw_OF_put tw_272 mi_OF_put ms_OF_put (As := [.int (xs (v3 + (1 : Int32)).toNatClampNeg), .int (xs (v3 + (2 : Int32)).toNatClampNeg), .long ((((xs (v3 + (3 : Int32)).toNatClampNeg).toInt64) <<< ((32 : Int32).toInt64 &&& 63)) ||| (((xs (v3 + (4 : Int32)).toNatClampNeg).toInt64) &&& (4294967295 : Int64)))]) rfl ⟨(Nat.le_of_ble_eq_true rfl), (Nat.le_of_ble_eq_true rfl), Nat.le_refl _, Nat.le_refl _⟩ (m_OF_put h) (rest := []) rfl (Nat.le_of_ble_eq_true rfl) dLW_law_182 (gk_z (fun r6 M7 h => ?_))
            refine g_aload_n X dLW_law_185 rfl 2 rfl ?_
            refine g_aload_n X dLW_law_186 rfl 0 rfl ?_
            refine g_iload_n X dLW_law_187 rfl 3 rfl ?_
            refine g_iconst X (v := (1 : Int32)) dLW_law_188 (by decide) ?_
            refine g_iadd X dLW_law_189 ?_
            obtain ⟨hi, h⟩ := h
            refine g_sld X hX hbl hbA hi dLW_law_190 ?_
            refine g_aload_n X dLW_law_191 rfl 0 rfl ?_
            refine g_iload_n X dLW_law_192 rfl 3 rfl ?_
            refine g_iconst X (v := (2 : Int32)) dLW_law_193 (by decide) ?_
            refine g_iadd X dLW_law_194 ?_
            obtain ⟨hi, h⟩ := h
            refine g_sld X hX hbl hbA hi dLW_law_195 ?_
            refine g_aload_n X dLW_law_196 rfl 0 rfl ?_
            refine g_iload_n X dLW_law_197 rfl 3 rfl ?_
            refine g_iconst X (v := (3 : Int32)) dLW_law_198 (by decide) ?_
            refine g_iadd X dLW_law_199 ?_
            obtain ⟨hi, h⟩ := h
            refine g_sld X hX hbl hbA hi dLW_law_200 ?_
            refine g_i2l X dLW_law_201 rfl ?_
            refine g_bipush X (v := (32 : Int32)) dLW_law_202 (by decide) ?_
            refine g_lshl X dLW_law_204 rfl ?_
            refine g_aload_n X dLW_law_205 rfl 0 rfl ?_
            refine g_iload_n X dLW_law_206 rfl 3 rfl ?_
            refine g_iconst X (v := (4 : Int32)) dLW_law_207 (by decide) ?_
            refine g_iadd X dLW_law_208 ?_
            obtain ⟨hi, h⟩ := h
            refine g_sld X hX hbl hbA hi dLW_law_209 ?_
            refine g_i2l X dLW_law_210 rfl ?_
            refine g_ldc2 X (v := (4294967295 : Int64)) (tw_1401) dLW_law_211 ?_
            refine g_land X dLW_law_214 ?_
            refine g_lor X dLW_law_215 ?_
            refine g_callV X hK gTs_ok ly_41 rfl mw_MO_put tw_1064 mi_MO_put ms_MO_put (As := [.int (xs (v3 + (1 : Int32)).toNatClampNeg), .int (xs (v3 + (2 : Int32)).toNatClampNeg), .long ((((xs (v3 + (3 : Int32)).toNatClampNeg).toInt64) <<< ((32 : Int32).toInt64 &&& 63)) ||| (((xs (v3 + (4 : Int32)).toNatClampNeg).toInt64) &&& (4294967295 : Int64)))]) rfl ⟨(Nat.le_of_ble_eq_true rfl), (Nat.le_of_ble_eq_true rfl), Nat.le_refl _, Nat.le_refl _⟩ (m_MO_put h) (rest := [.int (bI r6)]) rfl (Nat.le_of_ble_eq_true rfl) dLW_law_216 (gk_z (fun r8 M9 h => ?_))
            refine g_icmp_eq X dLW_law_219 (fun c => ?_) (fun c => ?_)
            · have h := h.1 c
              obtain ⟨x10, ex10⟩ : ∃ z : Int32, z = v3 + (6 : Int32) := ⟨_, rfl⟩
              have h := h x10 ex10
              refine g_iinc X (L' := [(3, .int x10), (0, .ref b), (1, .ref (base + 0)), (2, .ref (base + 41))]) (k := 3) dLW_law_835 rfl (v := x10) (by rw [ex10]; rfl) (Nat.le_of_ble_eq_true rfl) rfl ?_
              refine g_goto X dLW_law_838 ?_
              refine g_sub (L' := [(0, .ref b), (1, .ref (base + 0)), (2, .ref (base + 41)), (3, .int x10)]) [1, 2, 3, 0] rfl ?_
              exact ih x10 M9 h
            · have h := h.2 c
              refine g_iconst X (v := (0 : Int32)) dLW_law_222 (by decide) ?_
              exact h.elim
          · have h := h.2 c
            refine gSw_cons (fun c => ?_) (fun c => ?_)
            · have h := h.1 c
              refine g_aload_n X dLW_law_224 rfl 1 rfl ?_
              refine g_aload_n X dLW_law_225 rfl 0 rfl ?_
              refine g_iload_n X dLW_law_226 rfl 3 rfl ?_
              refine g_iconst X (v := (1 : Int32)) dLW_law_227 (by decide) ?_
              refine g_iadd X dLW_law_228 ?_
              obtain ⟨hi, h⟩ := h
              refine g_sld X hX hbl hbA hi dLW_law_229 ?_
              refine g_callV X hK gTs_ok ly_0 rfl mw_OF_bss tw_280 mi_OF_bss ms_OF_bss (As := [.int (xs (v3 + (1 : Int32)).toNatClampNeg)]) rfl ⟨(Nat.le_of_ble_eq_true rfl), (Nat.le_of_ble_eq_true rfl), Nat.le_refl _, Nat.le_refl _⟩ (m_OF_bss h) (rest := []) rfl (Nat.le_of_ble_eq_true rfl) dLW_law_230 (gk_z (fun r11 M12 h => ?_))
              refine g_aload_n X dLW_law_233 rfl 2 rfl ?_
              refine g_aload_n X dLW_law_234 rfl 0 rfl ?_
              refine g_iload_n X dLW_law_235 rfl 3 rfl ?_
              refine g_iconst X (v := (1 : Int32)) dLW_law_236 (by decide) ?_
              refine g_iadd X dLW_law_237 ?_
              obtain ⟨hi, h⟩ := h
              refine g_sld X hX hbl hbA hi dLW_law_238 ?_
              refine g_callV X hK gTs_ok ly_41 rfl mw_MO_bss tw_1072 mi_MO_bss ms_MO_bss (As := [.int (xs (v3 + (1 : Int32)).toNatClampNeg)]) rfl ⟨(Nat.le_of_ble_eq_true rfl), (Nat.le_of_ble_eq_true rfl), Nat.le_refl _, Nat.le_refl _⟩ (m_MO_bss h) (rest := [.int (bI r11)]) rfl (Nat.le_of_ble_eq_true rfl) dLW_law_239 (gk_z (fun r13 M14 h => ?_))
              refine g_icmp_eq X dLW_law_242 (fun c => ?_) (fun c => ?_)
              · have h := h.1 c
                obtain ⟨x15, ex15⟩ : ∃ z : Int32, z = v3 + (6 : Int32) := ⟨_, rfl⟩
                have h := h x15 ex15
                refine g_iinc X (L' := [(3, .int x15), (0, .ref b), (1, .ref (base + 0)), (2, .ref (base + 41))]) (k := 3) dLW_law_835 rfl (v := x15) (by rw [ex15]; rfl) (Nat.le_of_ble_eq_true rfl) rfl ?_
                refine g_goto X dLW_law_838 ?_
                refine g_sub (L' := [(0, .ref b), (1, .ref (base + 0)), (2, .ref (base + 41)), (3, .int x15)]) [1, 2, 3, 0] rfl ?_
                exact ih x15 M14 h
              · have h := h.2 c
                refine g_iconst X (v := (0 : Int32)) dLW_law_245 (by decide) ?_
                exact h.elim
            · have h := h.2 c
              refine gSw_cons (fun c => ?_) (fun c => ?_)
              · have h := h.1 c
                refine g_aload_n X dLW_law_247 rfl 1 rfl ?_
                refine g_aload_n X dLW_law_248 rfl 0 rfl ?_
                refine g_iload_n X dLW_law_249 rfl 3 rfl ?_
                refine g_iconst X (v := (1 : Int32)) dLW_law_250 (by decide) ?_
                refine g_iadd X dLW_law_251 ?_
                obtain ⟨hi, h⟩ := h
                refine g_sld X hX hbl hbA hi dLW_law_252 ?_
                refine g_aload_n X dLW_law_253 rfl 0 rfl ?_
                refine g_iload_n X dLW_law_254 rfl 3 rfl ?_
                refine g_iconst X (v := (2 : Int32)) dLW_law_255 (by decide) ?_
                refine g_iadd X dLW_law_256 ?_
                obtain ⟨hi, h⟩ := h
                refine g_sld X hX hbl hbA hi dLW_law_257 ?_
                refine g_callV X hK gTs_ok ly_0 rfl mw_OF_align tw_284 mi_OF_align ms_OF_align (As := [.int (xs (v3 + (1 : Int32)).toNatClampNeg), .int (xs (v3 + (2 : Int32)).toNatClampNeg)]) rfl ⟨(Nat.le_of_ble_eq_true rfl), (Nat.le_of_ble_eq_true rfl), Nat.le_refl _, Nat.le_refl _⟩ (m_OF_align h) (rest := []) rfl (Nat.le_of_ble_eq_true rfl) dLW_law_258 (gk_z (fun r16 M17 h => ?_))
                refine g_aload_n X dLW_law_261 rfl 2 rfl ?_
                refine g_aload_n X dLW_law_262 rfl 0 rfl ?_
                refine g_iload_n X dLW_law_263 rfl 3 rfl ?_
                refine g_iconst X (v := (1 : Int32)) dLW_law_264 (by decide) ?_
                refine g_iadd X dLW_law_265 ?_
                obtain ⟨hi, h⟩ := h
                refine g_sld X hX hbl hbA hi dLW_law_266 ?_
                refine g_aload_n X dLW_law_267 rfl 0 rfl ?_
                refine g_iload_n X dLW_law_268 rfl 3 rfl ?_
                refine g_iconst X (v := (2 : Int32)) dLW_law_269 (by decide) ?_
                refine g_iadd X dLW_law_270 ?_
                obtain ⟨hi, h⟩ := h
                refine g_sld X hX hbl hbA hi dLW_law_271 ?_
                refine g_callV X hK gTs_ok ly_41 rfl mw_MO_align tw_1076 mi_MO_align ms_MO_align (As := [.int (xs (v3 + (1 : Int32)).toNatClampNeg), .int (xs (v3 + (2 : Int32)).toNatClampNeg)]) rfl ⟨(Nat.le_of_ble_eq_true rfl), (Nat.le_of_ble_eq_true rfl), Nat.le_refl _, Nat.le_refl _⟩ (m_MO_align h) (rest := [.int (bI r16)]) rfl (Nat.le_of_ble_eq_true rfl) dLW_law_272 (gk_z (fun r18 M19 h => ?_))
                refine g_icmp_eq X dLW_law_275 (fun c => ?_) (fun c => ?_)
                · have h := h.1 c
                  obtain ⟨x20, ex20⟩ : ∃ z : Int32, z = v3 + (6 : Int32) := ⟨_, rfl⟩
                  have h := h x20 ex20
                  refine g_iinc X (L' := [(3, .int x20), (0, .ref b), (1, .ref (base + 0)), (2, .ref (base + 41))]) (k := 3) dLW_law_835 rfl (v := x20) (by rw [ex20]; rfl) (Nat.le_of_ble_eq_true rfl) rfl ?_
                  refine g_goto X dLW_law_838 ?_
                  refine g_sub (L' := [(0, .ref b), (1, .ref (base + 0)), (2, .ref (base + 41)), (3, .int x20)]) [1, 2, 3, 0] rfl ?_
                  exact ih x20 M19 h
                · have h := h.2 c
                  refine g_iconst X (v := (0 : Int32)) dLW_law_278 (by decide) ?_
                  exact h.elim
              · have h := h.2 c
                refine gSw_cons (fun c => ?_) (fun c => ?_)
                · have h := h.1 c
                  refine g_aload_n X dLW_law_280 rfl 1 rfl ?_
                  refine g_aload_n X dLW_law_281 rfl 0 rfl ?_
                  refine g_iload_n X dLW_law_282 rfl 3 rfl ?_
                  refine g_iconst X (v := (1 : Int32)) dLW_law_283 (by decide) ?_
                  refine g_iadd X dLW_law_284 ?_
                  obtain ⟨hi, h⟩ := h
                  refine g_sld X hX hbl hbA hi dLW_law_285 ?_
                  refine g_callV X hK gTs_ok ly_0 rfl mw_OF_start tw_288 mi_OF_start ms_OF_start (As := [.int (xs (v3 + (1 : Int32)).toNatClampNeg)]) rfl ⟨(Nat.le_of_ble_eq_true rfl), (Nat.le_of_ble_eq_true rfl), Nat.le_refl _, Nat.le_refl _⟩ (m_OF_start h) (rest := []) rfl (Nat.le_of_ble_eq_true rfl) dLW_law_286 (gk_z (fun r21 M22 h => ?_))
                  refine g_aload_n X dLW_law_289 rfl 2 rfl ?_
                  refine g_aload_n X dLW_law_290 rfl 0 rfl ?_
                  refine g_iload_n X dLW_law_291 rfl 3 rfl ?_
                  refine g_iconst X (v := (1 : Int32)) dLW_law_292 (by decide) ?_
                  refine g_iadd X dLW_law_293 ?_
                  obtain ⟨hi, h⟩ := h
                  refine g_sld X hX hbl hbA hi dLW_law_294 ?_
                  refine g_callV X hK gTs_ok ly_41 rfl mw_MO_start tw_1080 mi_MO_start ms_MO_start (As := [.int (xs (v3 + (1 : Int32)).toNatClampNeg)]) rfl ⟨(Nat.le_of_ble_eq_true rfl), (Nat.le_of_ble_eq_true rfl), Nat.le_refl _, Nat.le_refl _⟩ (m_MO_start h) (rest := [.int (bI r21)]) rfl (Nat.le_of_ble_eq_true rfl) dLW_law_295 (gk_z (fun r23 M24 h => ?_))
                  refine g_icmp_eq X dLW_law_298 (fun c => ?_) (fun c => ?_)
                  · have h := h.1 c
                    obtain ⟨x25, ex25⟩ : ∃ z : Int32, z = v3 + (6 : Int32) := ⟨_, rfl⟩
                    have h := h x25 ex25
                    refine g_iinc X (L' := [(3, .int x25), (0, .ref b), (1, .ref (base + 0)), (2, .ref (base + 41))]) (k := 3) dLW_law_835 rfl (v := x25) (by rw [ex25]; rfl) (Nat.le_of_ble_eq_true rfl) rfl ?_
                    refine g_goto X dLW_law_838 ?_
                    refine g_sub (L' := [(0, .ref b), (1, .ref (base + 0)), (2, .ref (base + 41)), (3, .int x25)]) [1, 2, 3, 0] rfl ?_
                    exact ih x25 M24 h
                  · have h := h.2 c
                    refine g_iconst X (v := (0 : Int32)) dLW_law_301 (by decide) ?_
                    exact h.elim
                · have h := h.2 c
                  refine gSw_cons (fun c => ?_) (fun c => ?_)
                  · have h := h.1 c
                    refine g_aload_n X dLW_law_303 rfl 1 rfl ?_
                    refine g_aload_n X dLW_law_304 rfl 0 rfl ?_
                    refine g_iload_n X dLW_law_305 rfl 3 rfl ?_
                    refine g_iconst X (v := (1 : Int32)) dLW_law_306 (by decide) ?_
                    refine g_iadd X dLW_law_307 ?_
                    obtain ⟨hi, h⟩ := h
                    refine g_sld X hX hbl hbA hi dLW_law_308 ?_
                    refine g_callV X hK gTs_ok ly_0 rfl mw_OF_letter tw_304 mi_OF_letter ms_OF_letter (As := [.int (xs (v3 + (1 : Int32)).toNatClampNeg)]) rfl ⟨(Nat.le_of_ble_eq_true rfl), (Nat.le_of_ble_eq_true rfl), Nat.le_refl _, Nat.le_refl _⟩ (m_OF_letter h) (rest := []) rfl (Nat.le_of_ble_eq_true rfl) dLW_law_309 (gk_z (fun r26 M27 h => ?_))
                    refine g_aload_n X dLW_law_312 rfl 2 rfl ?_
                    refine g_aload_n X dLW_law_313 rfl 0 rfl ?_
                    refine g_iload_n X dLW_law_314 rfl 3 rfl ?_
                    refine g_iconst X (v := (1 : Int32)) dLW_law_315 (by decide) ?_
                    refine g_iadd X dLW_law_316 ?_
                    obtain ⟨hi, h⟩ := h
                    refine g_sld X hX hbl hbA hi dLW_law_317 ?_
                    refine g_callV X hK gTs_ok ly_41 rfl mw_MO_letter tw_1084 mi_MO_letter ms_MO_letter (As := [.int (xs (v3 + (1 : Int32)).toNatClampNeg)]) rfl ⟨(Nat.le_of_ble_eq_true rfl), (Nat.le_of_ble_eq_true rfl), Nat.le_refl _, Nat.le_refl _⟩ (m_MO_letter h) (rest := [.int (bI r26)]) rfl (Nat.le_of_ble_eq_true rfl) dLW_law_318 (gk_z (fun r28 M29 h => ?_))
                    refine g_icmp_eq X dLW_law_321 (fun c => ?_) (fun c => ?_)
                    · have h := h.1 c
                      obtain ⟨x30, ex30⟩ : ∃ z : Int32, z = v3 + (6 : Int32) := ⟨_, rfl⟩
                      have h := h x30 ex30
                      refine g_iinc X (L' := [(3, .int x30), (0, .ref b), (1, .ref (base + 0)), (2, .ref (base + 41))]) (k := 3) dLW_law_835 rfl (v := x30) (by rw [ex30]; rfl) (Nat.le_of_ble_eq_true rfl) rfl ?_
                      refine g_goto X dLW_law_838 ?_
                      refine g_sub (L' := [(0, .ref b), (1, .ref (base + 0)), (2, .ref (base + 41)), (3, .int x30)]) [1, 2, 3, 0] rfl ?_
                      exact ih x30 M29 h
                    · have h := h.2 c
                      refine g_iconst X (v := (0 : Int32)) dLW_law_324 (by decide) ?_
                      exact h.elim
                  · have h := h.2 c
                    refine gSw_cons (fun c => ?_) (fun c => ?_)
                    · have h := h.1 c
                      refine g_aload_n X dLW_law_326 rfl 1 rfl ?_
                      refine g_aload_n X dLW_law_327 rfl 0 rfl ?_
                      refine g_iload_n X dLW_law_328 rfl 3 rfl ?_
                      refine g_iconst X (v := (1 : Int32)) dLW_law_329 (by decide) ?_
                      refine g_iadd X dLW_law_330 ?_
                      obtain ⟨hi, h⟩ := h
                      refine g_sld X hX hbl hbA hi dLW_law_331 ?_
                      refine g_aload_n X dLW_law_332 rfl 0 rfl ?_
                      refine g_iload_n X dLW_law_333 rfl 3 rfl ?_
                      refine g_iconst X (v := (2 : Int32)) dLW_law_334 (by decide) ?_
                      refine g_iadd X dLW_law_335 ?_
                      obtain ⟨hi, h⟩ := h
                      refine g_sld X hX hbl hbA hi dLW_law_336 ?_
                      refine g_aload_n X dLW_law_337 rfl 0 rfl ?_
                      refine g_iload_n X dLW_law_338 rfl 3 rfl ?_
                      refine g_iconst X (v := (3 : Int32)) dLW_law_339 (by decide) ?_
                      refine g_iadd X dLW_law_340 ?_
                      obtain ⟨hi, h⟩ := h
                      refine g_sld X hX hbl hbA hi dLW_law_341 ?_
                      refine g_aload_n X dLW_law_342 rfl 0 rfl ?_
                      refine g_iload_n X dLW_law_343 rfl 3 rfl ?_
                      refine g_iconst X (v := (4 : Int32)) dLW_law_344 (by decide) ?_
                      refine g_iadd X dLW_law_345 ?_
                      obtain ⟨hi, h⟩ := h
                      refine g_sld X hX hbl hbA hi dLW_law_346 ?_
                      refine g_aload_n X dLW_law_347 rfl 0 rfl ?_
                      refine g_iload_n X dLW_law_348 rfl 3 rfl ?_
                      refine g_iconst X (v := (5 : Int32)) dLW_law_349 (by decide) ?_
                      refine g_iadd X dLW_law_350 ?_
                      obtain ⟨hi, h⟩ := h
                      refine g_sld X hX hbl hbA hi dLW_law_351 ?_
                      refine g_callV X hK gTs_ok ly_0 rfl mw_OF_symbol tw_311 mi_OF_symbol ms_OF_symbol (As := [.int (xs (v3 + (1 : Int32)).toNatClampNeg), .int (xs (v3 + (2 : Int32)).toNatClampNeg), .int (xs (v3 + (3 : Int32)).toNatClampNeg), .int (xs (v3 + (4 : Int32)).toNatClampNeg), .int (xs (v3 + (5 : Int32)).toNatClampNeg)]) rfl ⟨(Nat.le_of_ble_eq_true rfl), (Nat.le_of_ble_eq_true rfl), Nat.le_refl _, Nat.le_refl _⟩ (m_OF_symbol h) (rest := []) rfl (Nat.le_of_ble_eq_true rfl) dLW_law_352 (gk_i (fun r31 M32 h => ?_))
                      refine g_aload_n X dLW_law_355 rfl 2 rfl ?_
                      refine g_aload_n X dLW_law_356 rfl 0 rfl ?_
                      refine g_iload_n X dLW_law_357 rfl 3 rfl ?_
                      refine g_iconst X (v := (1 : Int32)) dLW_law_358 (by decide) ?_
                      refine g_iadd X dLW_law_359 ?_
                      obtain ⟨hi, h⟩ := h
                      refine g_sld X hX hbl hbA hi dLW_law_360 ?_
                      refine g_aload_n X dLW_law_361 rfl 0 rfl ?_
                      refine g_iload_n X dLW_law_362 rfl 3 rfl ?_
                      refine g_iconst X (v := (2 : Int32)) dLW_law_363 (by decide) ?_
                      refine g_iadd X dLW_law_364 ?_
                      obtain ⟨hi, h⟩ := h
                      refine g_sld X hX hbl hbA hi dLW_law_365 ?_
                      refine g_aload_n X dLW_law_366 rfl 0 rfl ?_
                      refine g_iload_n X dLW_law_367 rfl 3 rfl ?_
                      refine g_iconst X (v := (3 : Int32)) dLW_law_368 (by decide) ?_
                      refine g_iadd X dLW_law_369 ?_
                      obtain ⟨hi, h⟩ := h
                      refine g_sld X hX hbl hbA hi dLW_law_370 ?_
                      refine g_aload_n X dLW_law_371 rfl 0 rfl ?_
                      refine g_iload_n X dLW_law_372 rfl 3 rfl ?_
                      refine g_iconst X (v := (4 : Int32)) dLW_law_373 (by decide) ?_
                      refine g_iadd X dLW_law_374 ?_
                      obtain ⟨hi, h⟩ := h
                      refine g_sld X hX hbl hbA hi dLW_law_375 ?_
                      refine g_aload_n X dLW_law_376 rfl 0 rfl ?_
                      refine g_iload_n X dLW_law_377 rfl 3 rfl ?_
                      refine g_iconst X (v := (5 : Int32)) dLW_law_378 (by decide) ?_
                      refine g_iadd X dLW_law_379 ?_
                      obtain ⟨hi, h⟩ := h
                      refine g_sld X hX hbl hbA hi dLW_law_380 ?_
                      refine g_callV X hK gTs_ok ly_41 rfl mw_MO_symbol tw_1088 mi_MO_symbol ms_MO_symbol (As := [.int (xs (v3 + (1 : Int32)).toNatClampNeg), .int (xs (v3 + (2 : Int32)).toNatClampNeg), .int (xs (v3 + (3 : Int32)).toNatClampNeg), .int (xs (v3 + (4 : Int32)).toNatClampNeg), .int (xs (v3 + (5 : Int32)).toNatClampNeg)]) rfl ⟨(Nat.le_of_ble_eq_true rfl), (Nat.le_of_ble_eq_true rfl), Nat.le_refl _, Nat.le_refl _⟩ (m_MO_symbol h) (rest := [.int r31]) rfl (Nat.le_of_ble_eq_true rfl) dLW_law_381 (gk_i (fun r33 M34 h => ?_))
                      refine g_icmp_eq X dLW_law_384 (fun c => ?_) (fun c => ?_)
                      · have h := h.1 c
                        obtain ⟨x35, ex35⟩ : ∃ z : Int32, z = v3 + (6 : Int32) := ⟨_, rfl⟩
                        have h := h x35 ex35
                        refine g_iinc X (L' := [(3, .int x35), (0, .ref b), (1, .ref (base + 0)), (2, .ref (base + 41))]) (k := 3) dLW_law_835 rfl (v := x35) (by rw [ex35]; rfl) (Nat.le_of_ble_eq_true rfl) rfl ?_
                        refine g_goto X dLW_law_838 ?_
                        refine g_sub (L' := [(0, .ref b), (1, .ref (base + 0)), (2, .ref (base + 41)), (3, .int x35)]) [1, 2, 3, 0] rfl ?_
                        exact ih x35 M34 h
                      · have h := h.2 c
                        refine g_iconst X (v := (0 : Int32)) dLW_law_387 (by decide) ?_
                        exact h.elim
                    · have h := h.2 c
                      refine gSw_cons (fun c => ?_) (fun c => ?_)
                      · have h := h.1 c
                        refine g_aload_n X dLW_law_389 rfl 1 rfl ?_
                        refine g_aload_n X dLW_law_390 rfl 0 rfl ?_
                        refine g_iload_n X dLW_law_391 rfl 3 rfl ?_
                        refine g_iconst X (v := (1 : Int32)) dLW_law_392 (by decide) ?_
                        refine g_iadd X dLW_law_393 ?_
                        obtain ⟨hi, h⟩ := h
                        refine g_sld X hX hbl hbA hi dLW_law_394 ?_
                        refine g_aload_n X dLW_law_395 rfl 0 rfl ?_
                        refine g_iload_n X dLW_law_396 rfl 3 rfl ?_
                        refine g_iconst X (v := (2 : Int32)) dLW_law_397 (by decide) ?_
                        refine g_iadd X dLW_law_398 ?_
                        obtain ⟨hi, h⟩ := h
                        refine g_sld X hX hbl hbA hi dLW_law_399 ?_
                        refine g_aload_n X dLW_law_400 rfl 0 rfl ?_
                        refine g_iload_n X dLW_law_401 rfl 3 rfl ?_
                        refine g_iconst X (v := (3 : Int32)) dLW_law_402 (by decide) ?_
                        refine g_iadd X dLW_law_403 ?_
                        obtain ⟨hi, h⟩ := h
                        refine g_sld X hX hbl hbA hi dLW_law_404 ?_
                        refine g_aload_n X dLW_law_405 rfl 0 rfl ?_
                        refine g_iload_n X dLW_law_406 rfl 3 rfl ?_
                        refine g_iconst X (v := (4 : Int32)) dLW_law_407 (by decide) ?_
                        refine g_iadd X dLW_law_408 ?_
                        obtain ⟨hi, h⟩ := h
                        refine g_sld X hX hbl hbA hi dLW_law_409 ?_
                        refine g_aload_n X dLW_law_410 rfl 0 rfl ?_
                        refine g_iload_n X dLW_law_411 rfl 3 rfl ?_
                        refine g_iconst X (v := (5 : Int32)) dLW_law_412 (by decide) ?_
                        refine g_iadd X dLW_law_413 ?_
                        obtain ⟨hi, h⟩ := h
                        refine g_sld X hX hbl hbA hi dLW_law_414 ?_
                        refine g_callV X hK gTs_ok ly_0 rfl mw_OF_relocation tw_356 mi_OF_relocation ms_OF_relocation (As := [.int (xs (v3 + (1 : Int32)).toNatClampNeg), .int (xs (v3 + (2 : Int32)).toNatClampNeg), .int (xs (v3 + (3 : Int32)).toNatClampNeg), .int (xs (v3 + (4 : Int32)).toNatClampNeg), .int (xs (v3 + (5 : Int32)).toNatClampNeg)]) rfl ⟨(Nat.le_of_ble_eq_true rfl), (Nat.le_of_ble_eq_true rfl), Nat.le_refl _, Nat.le_refl _⟩ (m_OF_relocation h) (rest := []) rfl (Nat.le_of_ble_eq_true rfl) dLW_law_415 (gk_i (fun r36 M37 h => ?_))
                        refine g_aload_n X dLW_law_418 rfl 2 rfl ?_
                        refine g_aload_n X dLW_law_419 rfl 0 rfl ?_
                        refine g_iload_n X dLW_law_420 rfl 3 rfl ?_
                        refine g_iconst X (v := (1 : Int32)) dLW_law_421 (by decide) ?_
                        refine g_iadd X dLW_law_422 ?_
                        obtain ⟨hi, h⟩ := h
                        refine g_sld X hX hbl hbA hi dLW_law_423 ?_
                        refine g_aload_n X dLW_law_424 rfl 0 rfl ?_
                        refine g_iload_n X dLW_law_425 rfl 3 rfl ?_
                        refine g_iconst X (v := (2 : Int32)) dLW_law_426 (by decide) ?_
                        refine g_iadd X dLW_law_427 ?_
                        obtain ⟨hi, h⟩ := h
                        refine g_sld X hX hbl hbA hi dLW_law_428 ?_
                        refine g_aload_n X dLW_law_429 rfl 0 rfl ?_
                        refine g_iload_n X dLW_law_430 rfl 3 rfl ?_
                        refine g_iconst X (v := (3 : Int32)) dLW_law_431 (by decide) ?_
                        refine g_iadd X dLW_law_432 ?_
                        obtain ⟨hi, h⟩ := h
                        refine g_sld X hX hbl hbA hi dLW_law_433 ?_
                        refine g_aload_n X dLW_law_434 rfl 0 rfl ?_
                        refine g_iload_n X dLW_law_435 rfl 3 rfl ?_
                        refine g_iconst X (v := (4 : Int32)) dLW_law_436 (by decide) ?_
                        refine g_iadd X dLW_law_437 ?_
                        obtain ⟨hi, h⟩ := h
                        refine g_sld X hX hbl hbA hi dLW_law_438 ?_
                        refine g_aload_n X dLW_law_439 rfl 0 rfl ?_
                        refine g_iload_n X dLW_law_440 rfl 3 rfl ?_
                        refine g_iconst X (v := (5 : Int32)) dLW_law_441 (by decide) ?_
                        refine g_iadd X dLW_law_442 ?_
                        obtain ⟨hi, h⟩ := h
                        refine g_sld X hX hbl hbA hi dLW_law_443 ?_
                        refine g_callV X hK gTs_ok ly_41 rfl mw_MO_relocation tw_1103 mi_MO_relocation ms_MO_relocation (As := [.int (xs (v3 + (1 : Int32)).toNatClampNeg), .int (xs (v3 + (2 : Int32)).toNatClampNeg), .int (xs (v3 + (3 : Int32)).toNatClampNeg), .int (xs (v3 + (4 : Int32)).toNatClampNeg), .int (xs (v3 + (5 : Int32)).toNatClampNeg)]) rfl ⟨(Nat.le_of_ble_eq_true rfl), (Nat.le_of_ble_eq_true rfl), Nat.le_refl _, Nat.le_refl _⟩ (m_MO_relocation h) (rest := [.int r36]) rfl (Nat.le_of_ble_eq_true rfl) dLW_law_444 (gk_i (fun r38 M39 h => ?_))
                        refine g_icmp_eq X dLW_law_447 (fun c => ?_) (fun c => ?_)
                        · have h := h.1 c
                          obtain ⟨x40, ex40⟩ : ∃ z : Int32, z = v3 + (6 : Int32) := ⟨_, rfl⟩
                          have h := h x40 ex40
                          refine g_iinc X (L' := [(3, .int x40), (0, .ref b), (1, .ref (base + 0)), (2, .ref (base + 41))]) (k := 3) dLW_law_835 rfl (v := x40) (by rw [ex40]; rfl) (Nat.le_of_ble_eq_true rfl) rfl ?_
                          refine g_goto X dLW_law_838 ?_
                          refine g_sub (L' := [(0, .ref b), (1, .ref (base + 0)), (2, .ref (base + 41)), (3, .int x40)]) [1, 2, 3, 0] rfl ?_
                          exact ih x40 M39 h
                        · have h := h.2 c
                          refine g_iconst X (v := (0 : Int32)) dLW_law_450 (by decide) ?_
                          exact h.elim
                      · have h := h.2 c
                        refine gSw_cons (fun c => ?_) (fun c => ?_)
                        · have h := h.1 c
                          refine g_aload_n X dLW_law_452 rfl 1 rfl ?_
                          refine g_callV X hK gTs_ok ly_0 rfl mw_OF_write tw_376 mi_OF_write ms_OF_write (As := []) rfl ⟨(Nat.le_of_ble_eq_true rfl), (Nat.le_of_ble_eq_true rfl), Nat.le_refl _, Nat.le_refl _⟩ (m_OF_write h) (rest := []) rfl (Nat.le_of_ble_eq_true rfl) dLW_law_453 (gk_i (fun r41 M42 h => ?_))
                          refine g_aload_n X dLW_law_456 rfl 2 rfl ?_
                          refine g_callV X hK gTs_ok ly_41 rfl mw_MO_write tw_1121 mi_MO_write ms_MO_write (As := []) rfl ⟨(Nat.le_of_ble_eq_true rfl), (Nat.le_of_ble_eq_true rfl), Nat.le_refl _, Nat.le_refl _⟩ (m_MO_write h) (rest := [.int r41]) rfl (Nat.le_of_ble_eq_true rfl) dLW_law_457 (gk_i (fun r43 M44 h => ?_))
                          refine g_icmp_eq X dLW_law_460 (fun c => ?_) (fun c => ?_)
                          · have h := h.1 c
                            obtain ⟨x45, ex45⟩ : ∃ z : Int32, z = v3 + (6 : Int32) := ⟨_, rfl⟩
                            have h := h x45 ex45
                            refine g_iinc X (L' := [(3, .int x45), (0, .ref b), (1, .ref (base + 0)), (2, .ref (base + 41))]) (k := 3) dLW_law_835 rfl (v := x45) (by rw [ex45]; rfl) (Nat.le_of_ble_eq_true rfl) rfl ?_
                            refine g_goto X dLW_law_838 ?_
                            refine g_sub (L' := [(0, .ref b), (1, .ref (base + 0)), (2, .ref (base + 41)), (3, .int x45)]) [1, 2, 3, 0] rfl ?_
                            exact ih x45 M44 h
                          · have h := h.2 c
                            refine g_iconst X (v := (0 : Int32)) dLW_law_463 (by decide) ?_
                            exact h.elim
                        · have h := h.2 c
                          refine gSw_cons (fun c => ?_) (fun c => ?_)
                          · have h := h.1 c
                            refine g_aload_n X dLW_law_465 rfl 1 rfl ?_
                            refine g_callV X hK gTs_ok ly_0 rfl mw_OF_size tw_619 mi_OF_size ms_OF_size (As := []) rfl ⟨(Nat.le_of_ble_eq_true rfl), (Nat.le_of_ble_eq_true rfl), Nat.le_refl _, Nat.le_refl _⟩ (m_OF_size h) (rest := []) rfl (Nat.le_of_ble_eq_true rfl) dLW_law_466 (gk_i (fun r46 M47 h => ?_))
                            refine g_aload_n X dLW_law_469 rfl 2 rfl ?_
                            refine g_callV X hK gTs_ok ly_41 rfl mw_MO_size tw_1211 mi_MO_size ms_MO_size (As := []) rfl ⟨(Nat.le_of_ble_eq_true rfl), (Nat.le_of_ble_eq_true rfl), Nat.le_refl _, Nat.le_refl _⟩ (m_MO_size h) (rest := [.int r46]) rfl (Nat.le_of_ble_eq_true rfl) dLW_law_470 (gk_i (fun r48 M49 h => ?_))
                            refine g_icmp_eq X dLW_law_473 (fun c => ?_) (fun c => ?_)
                            · have h := h.1 c
                              obtain ⟨x50, ex50⟩ : ∃ z : Int32, z = v3 + (6 : Int32) := ⟨_, rfl⟩
                              have h := h x50 ex50
                              refine g_iinc X (L' := [(3, .int x50), (0, .ref b), (1, .ref (base + 0)), (2, .ref (base + 41))]) (k := 3) dLW_law_835 rfl (v := x50) (by rw [ex50]; rfl) (Nat.le_of_ble_eq_true rfl) rfl ?_
                              refine g_goto X dLW_law_838 ?_
                              refine g_sub (L' := [(0, .ref b), (1, .ref (base + 0)), (2, .ref (base + 41)), (3, .int x50)]) [1, 2, 3, 0] rfl ?_
                              exact ih x50 M49 h
                            · have h := h.2 c
                              refine g_iconst X (v := (0 : Int32)) dLW_law_476 (by decide) ?_
                              exact h.elim
                          · have h := h.2 c
                            refine gSw_cons (fun c => ?_) (fun c => ?_)
                            · have h := h.1 c
                              refine g_aload_n X dLW_law_478 rfl 1 rfl ?_
                              refine g_aload_n X dLW_law_479 rfl 0 rfl ?_
                              refine g_iload_n X dLW_law_480 rfl 3 rfl ?_
                              refine g_iconst X (v := (1 : Int32)) dLW_law_481 (by decide) ?_
                              refine g_iadd X dLW_law_482 ?_
                              obtain ⟨hi, h⟩ := h
                              refine g_sld X hX hbl hbA hi dLW_law_483 ?_
                              refine g_callV X hK gTs_ok ly_0 rfl mw_OF_byteAt tw_623 mi_OF_byteAt ms_OF_byteAt (As := [.int (xs (v3 + (1 : Int32)).toNatClampNeg)]) rfl ⟨(Nat.le_of_ble_eq_true rfl), (Nat.le_of_ble_eq_true rfl), Nat.le_refl _, Nat.le_refl _⟩ (m_OF_byteAt h) (rest := []) rfl (Nat.le_of_ble_eq_true rfl) dLW_law_484 (gk_i (fun r51 M52 h => ?_))
                              refine g_aload_n X dLW_law_487 rfl 2 rfl ?_
                              refine g_aload_n X dLW_law_488 rfl 0 rfl ?_
                              refine g_iload_n X dLW_law_489 rfl 3 rfl ?_
                              refine g_iconst X (v := (1 : Int32)) dLW_law_490 (by decide) ?_
                              refine g_iadd X dLW_law_491 ?_
                              obtain ⟨hi, h⟩ := h
                              refine g_sld X hX hbl hbA hi dLW_law_492 ?_
                              refine g_callV X hK gTs_ok ly_41 rfl mw_MO_byteAt tw_1215 mi_MO_byteAt ms_MO_byteAt (As := [.int (xs (v3 + (1 : Int32)).toNatClampNeg)]) rfl ⟨(Nat.le_of_ble_eq_true rfl), (Nat.le_of_ble_eq_true rfl), Nat.le_refl _, Nat.le_refl _⟩ (m_MO_byteAt h) (rest := [.int r51]) rfl (Nat.le_of_ble_eq_true rfl) dLW_law_493 (gk_i (fun r53 M54 h => ?_))
                              refine g_icmp_eq X dLW_law_496 (fun c => ?_) (fun c => ?_)
                              · have h := h.1 c
                                obtain ⟨x55, ex55⟩ : ∃ z : Int32, z = v3 + (6 : Int32) := ⟨_, rfl⟩
                                have h := h x55 ex55
                                refine g_iinc X (L' := [(3, .int x55), (0, .ref b), (1, .ref (base + 0)), (2, .ref (base + 41))]) (k := 3) dLW_law_835 rfl (v := x55) (by rw [ex55]; rfl) (Nat.le_of_ble_eq_true rfl) rfl ?_
                                refine g_goto X dLW_law_838 ?_
                                refine g_sub (L' := [(0, .ref b), (1, .ref (base + 0)), (2, .ref (base + 41)), (3, .int x55)]) [1, 2, 3, 0] rfl ?_
                                exact ih x55 M54 h
                              · have h := h.2 c
                                refine g_iconst X (v := (0 : Int32)) dLW_law_499 (by decide) ?_
                                exact h.elim
                            · have h := h.2 c
                              refine gSw_cons (fun c => ?_) (fun c => ?_)
                              · have h := h.1 c
                                refine g_aload_n X dLW_law_501 rfl 1 rfl ?_
                                refine g_aload_n X dLW_law_502 rfl 0 rfl ?_
                                refine g_iload_n X dLW_law_503 rfl 3 rfl ?_
                                refine g_iconst X (v := (1 : Int32)) dLW_law_504 (by decide) ?_
                                refine g_iadd X dLW_law_505 ?_
                                obtain ⟨hi, h⟩ := h
                                refine g_sld X hX hbl hbA hi dLW_law_506 ?_
                                refine g_aload_n X dLW_law_507 rfl 0 rfl ?_
                                refine g_iload_n X dLW_law_508 rfl 3 rfl ?_
                                refine g_iconst X (v := (2 : Int32)) dLW_law_509 (by decide) ?_
                                refine g_iadd X dLW_law_510 ?_
                                obtain ⟨hi, h⟩ := h
                                refine g_sld X hX hbl hbA hi dLW_law_511 ?_
                                refine g_i2l X dLW_law_512 rfl ?_
                                refine g_bipush X (v := (32 : Int32)) dLW_law_513 (by decide) ?_
                                refine g_lshl X dLW_law_515 rfl ?_
                                refine g_aload_n X dLW_law_516 rfl 0 rfl ?_
                                refine g_iload_n X dLW_law_517 rfl 3 rfl ?_
                                refine g_iconst X (v := (3 : Int32)) dLW_law_518 (by decide) ?_
                                refine g_iadd X dLW_law_519 ?_
                                obtain ⟨hi, h⟩ := h
                                refine g_sld X hX hbl hbA hi dLW_law_520 ?_
                                refine g_i2l X dLW_law_521 rfl ?_
                                refine g_ldc2 X (v := (4294967295 : Int64)) (tw_1401) dLW_law_522 ?_
                                refine g_land X dLW_law_525 ?_
                                refine g_lor X dLW_law_526 ?_
                                refine g_callV X hK gTs_ok ly_0 rfl mw_OF_feed tw_635 mi_OF_feed ms_OF_feed (As := [.int (xs (v3 + (1 : Int32)).toNatClampNeg), .long ((((xs (v3 + (2 : Int32)).toNatClampNeg).toInt64) <<< ((32 : Int32).toInt64 &&& 63)) ||| (((xs (v3 + (3 : Int32)).toNatClampNeg).toInt64) &&& (4294967295 : Int64)))]) rfl ⟨(Nat.le_of_ble_eq_true rfl), (Nat.le_of_ble_eq_true rfl), Nat.le_refl _, Nat.le_refl _⟩ (m_OF_feed h) (rest := []) rfl (Nat.le_of_ble_eq_true rfl) dLW_law_527 (gk_z (fun r56 M57 h => ?_))
                                refine g_aload_n X dLW_law_530 rfl 2 rfl ?_
                                refine g_aload_n X dLW_law_531 rfl 0 rfl ?_
                                refine g_iload_n X dLW_law_532 rfl 3 rfl ?_
                                refine g_iconst X (v := (1 : Int32)) dLW_law_533 (by decide) ?_
                                refine g_iadd X dLW_law_534 ?_
                                obtain ⟨hi, h⟩ := h
                                refine g_sld X hX hbl hbA hi dLW_law_535 ?_
                                refine g_aload_n X dLW_law_536 rfl 0 rfl ?_
                                refine g_iload_n X dLW_law_537 rfl 3 rfl ?_
                                refine g_iconst X (v := (2 : Int32)) dLW_law_538 (by decide) ?_
                                refine g_iadd X dLW_law_539 ?_
                                obtain ⟨hi, h⟩ := h
                                refine g_sld X hX hbl hbA hi dLW_law_540 ?_
                                refine g_i2l X dLW_law_541 rfl ?_
                                refine g_bipush X (v := (32 : Int32)) dLW_law_542 (by decide) ?_
                                refine g_lshl X dLW_law_544 rfl ?_
                                refine g_aload_n X dLW_law_545 rfl 0 rfl ?_
                                refine g_iload_n X dLW_law_546 rfl 3 rfl ?_
                                refine g_iconst X (v := (3 : Int32)) dLW_law_547 (by decide) ?_
                                refine g_iadd X dLW_law_548 ?_
                                obtain ⟨hi, h⟩ := h
                                refine g_sld X hX hbl hbA hi dLW_law_549 ?_
                                refine g_i2l X dLW_law_550 rfl ?_
                                refine g_ldc2 X (v := (4294967295 : Int64)) (tw_1401) dLW_law_551 ?_
                                refine g_land X dLW_law_554 ?_
                                refine g_lor X dLW_law_555 ?_
                                refine g_callV X hK gTs_ok ly_41 rfl mw_MO_feed tw_1219 mi_MO_feed ms_MO_feed (As := [.int (xs (v3 + (1 : Int32)).toNatClampNeg), .long ((((xs (v3 + (2 : Int32)).toNatClampNeg).toInt64) <<< ((32 : Int32).toInt64 &&& 63)) ||| (((xs (v3 + (3 : Int32)).toNatClampNeg).toInt64) &&& (4294967295 : Int64)))]) rfl ⟨(Nat.le_of_ble_eq_true rfl), (Nat.le_of_ble_eq_true rfl), Nat.le_refl _, Nat.le_refl _⟩ (m_MO_feed h) (rest := [.int (bI r56)]) rfl (Nat.le_of_ble_eq_true rfl) dLW_law_556 (gk_z (fun r58 M59 h => ?_))
                                refine g_icmp_eq X dLW_law_559 (fun c => ?_) (fun c => ?_)
                                · have h := h.1 c
                                  obtain ⟨x60, ex60⟩ : ∃ z : Int32, z = v3 + (6 : Int32) := ⟨_, rfl⟩
                                  have h := h x60 ex60
                                  refine g_iinc X (L' := [(3, .int x60), (0, .ref b), (1, .ref (base + 0)), (2, .ref (base + 41))]) (k := 3) dLW_law_835 rfl (v := x60) (by rw [ex60]; rfl) (Nat.le_of_ble_eq_true rfl) rfl ?_
                                  refine g_goto X dLW_law_838 ?_
                                  refine g_sub (L' := [(0, .ref b), (1, .ref (base + 0)), (2, .ref (base + 41)), (3, .int x60)]) [1, 2, 3, 0] rfl ?_
                                  exact ih x60 M59 h
                                · have h := h.2 c
                                  refine g_iconst X (v := (0 : Int32)) dLW_law_562 (by decide) ?_
                                  exact h.elim
                              · have h := h.2 c
                                refine gSw_cons (fun c => ?_) (fun c => ?_)
                                · have h := h.1 c
                                  refine g_aload_n X dLW_law_564 rfl 1 rfl ?_
                                  refine g_aload_n X dLW_law_565 rfl 0 rfl ?_
                                  refine g_iload_n X dLW_law_566 rfl 3 rfl ?_
                                  refine g_iconst X (v := (1 : Int32)) dLW_law_567 (by decide) ?_
                                  refine g_iadd X dLW_law_568 ?_
                                  obtain ⟨hi, h⟩ := h
                                  refine g_sld X hX hbl hbA hi dLW_law_569 ?_
                                  refine g_callV X hK gTs_ok ly_0 rfl mw_OF_cut tw_643 mi_OF_cut ms_OF_cut (As := [.int (xs (v3 + (1 : Int32)).toNatClampNeg)]) rfl ⟨(Nat.le_of_ble_eq_true rfl), (Nat.le_of_ble_eq_true rfl), Nat.le_refl _, Nat.le_refl _⟩ (m_OF_cut h) (rest := []) rfl (Nat.le_of_ble_eq_true rfl) dLW_law_570 (gk_z (fun r61 M62 h => ?_))
                                  refine g_aload_n X dLW_law_573 rfl 2 rfl ?_
                                  refine g_aload_n X dLW_law_574 rfl 0 rfl ?_
                                  refine g_iload_n X dLW_law_575 rfl 3 rfl ?_
                                  refine g_iconst X (v := (1 : Int32)) dLW_law_576 (by decide) ?_
                                  refine g_iadd X dLW_law_577 ?_
                                  obtain ⟨hi, h⟩ := h
                                  refine g_sld X hX hbl hbA hi dLW_law_578 ?_
                                  refine g_callV X hK gTs_ok ly_41 rfl mw_MO_cut tw_1223 mi_MO_cut ms_MO_cut (As := [.int (xs (v3 + (1 : Int32)).toNatClampNeg)]) rfl ⟨(Nat.le_of_ble_eq_true rfl), (Nat.le_of_ble_eq_true rfl), Nat.le_refl _, Nat.le_refl _⟩ (m_MO_cut h) (rest := [.int (bI r61)]) rfl (Nat.le_of_ble_eq_true rfl) dLW_law_579 (gk_z (fun r63 M64 h => ?_))
                                  refine g_icmp_eq X dLW_law_582 (fun c => ?_) (fun c => ?_)
                                  · have h := h.1 c
                                    obtain ⟨x65, ex65⟩ : ∃ z : Int32, z = v3 + (6 : Int32) := ⟨_, rfl⟩
                                    have h := h x65 ex65
                                    refine g_iinc X (L' := [(3, .int x65), (0, .ref b), (1, .ref (base + 0)), (2, .ref (base + 41))]) (k := 3) dLW_law_835 rfl (v := x65) (by rw [ex65]; rfl) (Nat.le_of_ble_eq_true rfl) rfl ?_
                                    refine g_goto X dLW_law_838 ?_
                                    refine g_sub (L' := [(0, .ref b), (1, .ref (base + 0)), (2, .ref (base + 41)), (3, .int x65)]) [1, 2, 3, 0] rfl ?_
                                    exact ih x65 M64 h
                                  · have h := h.2 c
                                    refine g_iconst X (v := (0 : Int32)) dLW_law_585 (by decide) ?_
                                    exact h.elim
                                · have h := h.2 c
                                  refine gSw_cons (fun c => ?_) (fun c => ?_)
                                  · have h := h.1 c
                                    refine g_aload_n X dLW_law_587 rfl 1 rfl ?_
                                    refine g_aload_n X dLW_law_588 rfl 0 rfl ?_
                                    refine g_iload_n X dLW_law_589 rfl 3 rfl ?_
                                    refine g_iconst X (v := (1 : Int32)) dLW_law_590 (by decide) ?_
                                    refine g_iadd X dLW_law_591 ?_
                                    obtain ⟨hi, h⟩ := h
                                    refine g_sld X hX hbl hbA hi dLW_law_592 ?_
                                    refine g_aload_n X dLW_law_593 rfl 0 rfl ?_
                                    refine g_iload_n X dLW_law_594 rfl 3 rfl ?_
                                    refine g_iconst X (v := (2 : Int32)) dLW_law_595 (by decide) ?_
                                    refine g_iadd X dLW_law_596 ?_
                                    obtain ⟨hi, h⟩ := h
                                    refine g_sld X hX hbl hbA hi dLW_law_597 ?_
                                    refine g_callV X hK gTs_ok ly_0 rfl mw_OF_spoil tw_647 mi_OF_spoil ms_OF_spoil (As := [.int (xs (v3 + (1 : Int32)).toNatClampNeg), .int (xs (v3 + (2 : Int32)).toNatClampNeg)]) rfl ⟨(Nat.le_of_ble_eq_true rfl), (Nat.le_of_ble_eq_true rfl), Nat.le_refl _, Nat.le_refl _⟩ (m_OF_spoil h) (rest := []) rfl (Nat.le_of_ble_eq_true rfl) dLW_law_598 (gk_i (fun r66 M67 h => ?_))
                                    refine g_aload_n X dLW_law_601 rfl 2 rfl ?_
                                    refine g_aload_n X dLW_law_602 rfl 0 rfl ?_
                                    refine g_iload_n X dLW_law_603 rfl 3 rfl ?_
                                    refine g_iconst X (v := (1 : Int32)) dLW_law_604 (by decide) ?_
                                    refine g_iadd X dLW_law_605 ?_
                                    obtain ⟨hi, h⟩ := h
                                    refine g_sld X hX hbl hbA hi dLW_law_606 ?_
                                    refine g_aload_n X dLW_law_607 rfl 0 rfl ?_
                                    refine g_iload_n X dLW_law_608 rfl 3 rfl ?_
                                    refine g_iconst X (v := (2 : Int32)) dLW_law_609 (by decide) ?_
                                    refine g_iadd X dLW_law_610 ?_
                                    obtain ⟨hi, h⟩ := h
                                    refine g_sld X hX hbl hbA hi dLW_law_611 ?_
                                    refine g_callV X hK gTs_ok ly_41 rfl mw_MO_spoil tw_1227 mi_MO_spoil ms_MO_spoil (As := [.int (xs (v3 + (1 : Int32)).toNatClampNeg), .int (xs (v3 + (2 : Int32)).toNatClampNeg)]) rfl ⟨(Nat.le_of_ble_eq_true rfl), (Nat.le_of_ble_eq_true rfl), Nat.le_refl _, Nat.le_refl _⟩ (m_MO_spoil h) (rest := [.int r66]) rfl (Nat.le_of_ble_eq_true rfl) dLW_law_612 (gk_i (fun r68 M69 h => ?_))
                                    refine g_icmp_eq X dLW_law_615 (fun c => ?_) (fun c => ?_)
                                    · have h := h.1 c
                                      obtain ⟨x70, ex70⟩ : ∃ z : Int32, z = v3 + (6 : Int32) := ⟨_, rfl⟩
                                      have h := h x70 ex70
                                      refine g_iinc X (L' := [(3, .int x70), (0, .ref b), (1, .ref (base + 0)), (2, .ref (base + 41))]) (k := 3) dLW_law_835 rfl (v := x70) (by rw [ex70]; rfl) (Nat.le_of_ble_eq_true rfl) rfl ?_
                                      refine g_goto X dLW_law_838 ?_
                                      refine g_sub (L' := [(0, .ref b), (1, .ref (base + 0)), (2, .ref (base + 41)), (3, .int x70)]) [1, 2, 3, 0] rfl ?_
                                      exact ih x70 M69 h
                                    · have h := h.2 c
                                      refine g_iconst X (v := (0 : Int32)) dLW_law_618 (by decide) ?_
                                      exact h.elim
                                  · have h := h.2 c
                                    refine gSw_cons (fun c => ?_) (fun c => ?_)
                                    · have h := h.1 c
                                      refine g_aload_n X dLW_law_620 rfl 1 rfl ?_
                                      refine g_callV X hK gTs_ok ly_0 rfl mw_OF_read tw_652 mi_OF_read ms_OF_read (As := []) rfl ⟨(Nat.le_of_ble_eq_true rfl), (Nat.le_of_ble_eq_true rfl), Nat.le_refl _, Nat.le_refl _⟩ (m_OF_read h) (rest := []) rfl (Nat.le_of_ble_eq_true rfl) dLW_law_621 (gk_i (fun r71 M72 h => ?_))
                                      refine g_aload_n X dLW_law_624 rfl 2 rfl ?_
                                      refine g_callV X hK gTs_ok ly_41 rfl mw_MO_read tw_1231 mi_MO_read ms_MO_read (As := []) rfl ⟨(Nat.le_of_ble_eq_true rfl), (Nat.le_of_ble_eq_true rfl), Nat.le_refl _, Nat.le_refl _⟩ (m_MO_read h) (rest := [.int r71]) rfl (Nat.le_of_ble_eq_true rfl) dLW_law_625 (gk_i (fun r73 M74 h => ?_))
                                      refine g_icmp_eq X dLW_law_628 (fun c => ?_) (fun c => ?_)
                                      · have h := h.1 c
                                        obtain ⟨x75, ex75⟩ : ∃ z : Int32, z = v3 + (6 : Int32) := ⟨_, rfl⟩
                                        have h := h x75 ex75
                                        refine g_iinc X (L' := [(3, .int x75), (0, .ref b), (1, .ref (base + 0)), (2, .ref (base + 41))]) (k := 3) dLW_law_835 rfl (v := x75) (by rw [ex75]; rfl) (Nat.le_of_ble_eq_true rfl) rfl ?_
                                        refine g_goto X dLW_law_838 ?_
                                        refine g_sub (L' := [(0, .ref b), (1, .ref (base + 0)), (2, .ref (base + 41)), (3, .int x75)]) [1, 2, 3, 0] rfl ?_
                                        exact ih x75 M74 h
                                      · have h := h.2 c
                                        refine g_iconst X (v := (0 : Int32)) dLW_law_631 (by decide) ?_
                                        exact h.elim
                                    · have h := h.2 c
                                      refine gSw_cons (fun c => ?_) (fun c => ?_)
                                      · have h := h.1 c
                                        refine g_aload_n X dLW_law_633 rfl 1 rfl ?_
                                        refine g_callV X hK gTs_ok ly_0 rfl mw_OF_place tw_880 mi_OF_place ms_OF_place (As := []) rfl ⟨(Nat.le_of_ble_eq_true rfl), (Nat.le_of_ble_eq_true rfl), Nat.le_refl _, Nat.le_refl _⟩ (m_OF_place h) (rest := []) rfl (Nat.le_of_ble_eq_true rfl) dLW_law_634 (gk_i (fun r76 M77 h => ?_))
                                        refine g_aload_n X dLW_law_637 rfl 2 rfl ?_
                                        refine g_callV X hK gTs_ok ly_41 rfl mw_MO_place tw_1369 mi_MO_place ms_MO_place (As := []) rfl ⟨(Nat.le_of_ble_eq_true rfl), (Nat.le_of_ble_eq_true rfl), Nat.le_refl _, Nat.le_refl _⟩ (m_MO_place h) (rest := [.int r76]) rfl (Nat.le_of_ble_eq_true rfl) dLW_law_638 (gk_i (fun r78 M79 h => ?_))
                                        refine g_icmp_eq X dLW_law_641 (fun c => ?_) (fun c => ?_)
                                        · have h := h.1 c
                                          obtain ⟨x80, ex80⟩ : ∃ z : Int32, z = v3 + (6 : Int32) := ⟨_, rfl⟩
                                          have h := h x80 ex80
                                          refine g_iinc X (L' := [(3, .int x80), (0, .ref b), (1, .ref (base + 0)), (2, .ref (base + 41))]) (k := 3) dLW_law_835 rfl (v := x80) (by rw [ex80]; rfl) (Nat.le_of_ble_eq_true rfl) rfl ?_
                                          refine g_goto X dLW_law_838 ?_
                                          refine g_sub (L' := [(0, .ref b), (1, .ref (base + 0)), (2, .ref (base + 41)), (3, .int x80)]) [1, 2, 3, 0] rfl ?_
                                          exact ih x80 M79 h
                                        · have h := h.2 c
                                          refine g_iconst X (v := (0 : Int32)) dLW_law_644 (by decide) ?_
                                          exact h.elim
                                      · have h := h.2 c
                                        refine gSw_cons (fun c => ?_) (fun c => ?_)
                                        · have h := h.1 c
                                          refine g_aload_n X dLW_law_646 rfl 1 rfl ?_
                                          refine g_callV X hK gTs_ok ly_0 rfl mw_OF_keep tw_884 mi_OF_keep ms_OF_keep (As := []) rfl ⟨(Nat.le_of_ble_eq_true rfl), (Nat.le_of_ble_eq_true rfl), Nat.le_refl _, Nat.le_refl _⟩ (m_OF_keep h) (rest := []) rfl (Nat.le_of_ble_eq_true rfl) dLW_law_647 (gk_v (fun M82 h => ?_))
                                          refine g_aload_n X dLW_law_650 rfl 2 rfl ?_
                                          refine g_callV X hK gTs_ok ly_41 rfl mw_MO_keep tw_1373 mi_MO_keep ms_MO_keep (As := []) rfl ⟨(Nat.le_of_ble_eq_true rfl), (Nat.le_of_ble_eq_true rfl), Nat.le_refl _, Nat.le_refl _⟩ (m_MO_keep h) (rest := []) rfl (Nat.le_of_ble_eq_true rfl) dLW_law_651 (gk_v (fun M84 h => ?_))
                                          refine g_goto X dLW_law_654 ?_
                                          obtain ⟨x85, ex85⟩ : ∃ z : Int32, z = v3 + (6 : Int32) := ⟨_, rfl⟩
                                          have h := h x85 ex85
                                          refine g_iinc X (L' := [(3, .int x85), (0, .ref b), (1, .ref (base + 0)), (2, .ref (base + 41))]) (k := 3) dLW_law_835 rfl (v := x85) (by rw [ex85]; rfl) (Nat.le_of_ble_eq_true rfl) rfl ?_
                                          refine g_goto X dLW_law_838 ?_
                                          refine g_sub (L' := [(0, .ref b), (1, .ref (base + 0)), (2, .ref (base + 41)), (3, .int x85)]) [1, 2, 3, 0] rfl ?_
                                          exact ih x85 M84 h
                                        · have h := h.2 c
                                          refine gSw_cons (fun c => ?_) (fun c => ?_)
                                          · have h := h.1 c
                                            refine g_aload_n X dLW_law_657 rfl 1 rfl ?_
                                            refine g_aload_n X dLW_law_658 rfl 0 rfl ?_
                                            refine g_iload_n X dLW_law_659 rfl 3 rfl ?_
                                            refine g_iconst X (v := (1 : Int32)) dLW_law_660 (by decide) ?_
                                            refine g_iadd X dLW_law_661 ?_
                                            obtain ⟨hi, h⟩ := h
                                            refine g_sld X hX hbl hbA hi dLW_law_662 ?_
                                            refine g_aload_n X dLW_law_663 rfl 0 rfl ?_
                                            refine g_iload_n X dLW_law_664 rfl 3 rfl ?_
                                            refine g_iconst X (v := (2 : Int32)) dLW_law_665 (by decide) ?_
                                            refine g_iadd X dLW_law_666 ?_
                                            obtain ⟨hi, h⟩ := h
                                            refine g_sld X hX hbl hbA hi dLW_law_667 ?_
                                            refine g_callV X hK gTs_ok ly_0 rfl mw_OF_section tw_892 mi_OF_section ms_OF_section (As := [.int (xs (v3 + (1 : Int32)).toNatClampNeg), .int (xs (v3 + (2 : Int32)).toNatClampNeg)]) rfl ⟨(Nat.le_of_ble_eq_true rfl), (Nat.le_of_ble_eq_true rfl), Nat.le_refl _, Nat.le_refl _⟩ (m_OF_section h) (rest := []) rfl (Nat.le_of_ble_eq_true rfl) dLW_law_668 (gk_i (fun r86 M87 h => ?_))
                                            refine g_aload_n X dLW_law_671 rfl 2 rfl ?_
                                            refine g_aload_n X dLW_law_672 rfl 0 rfl ?_
                                            refine g_iload_n X dLW_law_673 rfl 3 rfl ?_
                                            refine g_iconst X (v := (1 : Int32)) dLW_law_674 (by decide) ?_
                                            refine g_iadd X dLW_law_675 ?_
                                            obtain ⟨hi, h⟩ := h
                                            refine g_sld X hX hbl hbA hi dLW_law_676 ?_
                                            refine g_aload_n X dLW_law_677 rfl 0 rfl ?_
                                            refine g_iload_n X dLW_law_678 rfl 3 rfl ?_
                                            refine g_iconst X (v := (2 : Int32)) dLW_law_679 (by decide) ?_
                                            refine g_iadd X dLW_law_680 ?_
                                            obtain ⟨hi, h⟩ := h
                                            refine g_sld X hX hbl hbA hi dLW_law_681 ?_
                                            refine g_callV X hK gTs_ok ly_41 rfl mw_MO_section tw_1377 mi_MO_section ms_MO_section (As := [.int (xs (v3 + (1 : Int32)).toNatClampNeg), .int (xs (v3 + (2 : Int32)).toNatClampNeg)]) rfl ⟨(Nat.le_of_ble_eq_true rfl), (Nat.le_of_ble_eq_true rfl), Nat.le_refl _, Nat.le_refl _⟩ (m_MO_section h) (rest := [.int r86]) rfl (Nat.le_of_ble_eq_true rfl) dLW_law_682 (gk_i (fun r88 M89 h => ?_))
                                            refine g_icmp_eq X dLW_law_685 (fun c => ?_) (fun c => ?_)
                                            · have h := h.1 c
                                              obtain ⟨x90, ex90⟩ : ∃ z : Int32, z = v3 + (6 : Int32) := ⟨_, rfl⟩
                                              have h := h x90 ex90
                                              refine g_iinc X (L' := [(3, .int x90), (0, .ref b), (1, .ref (base + 0)), (2, .ref (base + 41))]) (k := 3) dLW_law_835 rfl (v := x90) (by rw [ex90]; rfl) (Nat.le_of_ble_eq_true rfl) rfl ?_
                                              refine g_goto X dLW_law_838 ?_
                                              refine g_sub (L' := [(0, .ref b), (1, .ref (base + 0)), (2, .ref (base + 41)), (3, .int x90)]) [1, 2, 3, 0] rfl ?_
                                              exact ih x90 M89 h
                                            · have h := h.2 c
                                              refine g_iconst X (v := (0 : Int32)) dLW_law_688 (by decide) ?_
                                              exact h.elim
                                          · have h := h.2 c
                                            refine gSw_cons (fun c => ?_) (fun c => ?_)
                                            · have h := h.1 c
                                              refine g_aload_n X dLW_law_690 rfl 1 rfl ?_
                                              refine g_aload_n X dLW_law_691 rfl 0 rfl ?_
                                              refine g_iload_n X dLW_law_692 rfl 3 rfl ?_
                                              refine g_iconst X (v := (1 : Int32)) dLW_law_693 (by decide) ?_
                                              refine g_iadd X dLW_law_694 ?_
                                              obtain ⟨hi, h⟩ := h
                                              refine g_sld X hX hbl hbA hi dLW_law_695 ?_
                                              refine g_aload_n X dLW_law_696 rfl 0 rfl ?_
                                              refine g_iload_n X dLW_law_697 rfl 3 rfl ?_
                                              refine g_iconst X (v := (2 : Int32)) dLW_law_698 (by decide) ?_
                                              refine g_iadd X dLW_law_699 ?_
                                              obtain ⟨hi, h⟩ := h
                                              refine g_sld X hX hbl hbA hi dLW_law_700 ?_
                                              refine g_callV X hK gTs_ok ly_0 rfl mw_OF_at tw_896 mi_OF_at ms_OF_at (As := [.int (xs (v3 + (1 : Int32)).toNatClampNeg), .int (xs (v3 + (2 : Int32)).toNatClampNeg)]) rfl ⟨(Nat.le_of_ble_eq_true rfl), (Nat.le_of_ble_eq_true rfl), Nat.le_refl _, Nat.le_refl _⟩ (m_OF_at h) (rest := []) rfl (Nat.le_of_ble_eq_true rfl) dLW_law_701 (gk_i (fun r91 M92 h => ?_))
                                              refine g_aload_n X dLW_law_704 rfl 2 rfl ?_
                                              refine g_aload_n X dLW_law_705 rfl 0 rfl ?_
                                              refine g_iload_n X dLW_law_706 rfl 3 rfl ?_
                                              refine g_iconst X (v := (1 : Int32)) dLW_law_707 (by decide) ?_
                                              refine g_iadd X dLW_law_708 ?_
                                              obtain ⟨hi, h⟩ := h
                                              refine g_sld X hX hbl hbA hi dLW_law_709 ?_
                                              refine g_aload_n X dLW_law_710 rfl 0 rfl ?_
                                              refine g_iload_n X dLW_law_711 rfl 3 rfl ?_
                                              refine g_iconst X (v := (2 : Int32)) dLW_law_712 (by decide) ?_
                                              refine g_iadd X dLW_law_713 ?_
                                              obtain ⟨hi, h⟩ := h
                                              refine g_sld X hX hbl hbA hi dLW_law_714 ?_
                                              refine g_callV X hK gTs_ok ly_41 rfl mw_MO_at tw_1381 mi_MO_at ms_MO_at (As := [.int (xs (v3 + (1 : Int32)).toNatClampNeg), .int (xs (v3 + (2 : Int32)).toNatClampNeg)]) rfl ⟨(Nat.le_of_ble_eq_true rfl), (Nat.le_of_ble_eq_true rfl), Nat.le_refl _, Nat.le_refl _⟩ (m_MO_at h) (rest := [.int r91]) rfl (Nat.le_of_ble_eq_true rfl) dLW_law_715 (gk_i (fun r93 M94 h => ?_))
                                              refine g_icmp_eq X dLW_law_718 (fun c => ?_) (fun c => ?_)
                                              · have h := h.1 c
                                                obtain ⟨x95, ex95⟩ : ∃ z : Int32, z = v3 + (6 : Int32) := ⟨_, rfl⟩
                                                have h := h x95 ex95
                                                refine g_iinc X (L' := [(3, .int x95), (0, .ref b), (1, .ref (base + 0)), (2, .ref (base + 41))]) (k := 3) dLW_law_835 rfl (v := x95) (by rw [ex95]; rfl) (Nat.le_of_ble_eq_true rfl) rfl ?_
                                                refine g_goto X dLW_law_838 ?_
                                                refine g_sub (L' := [(0, .ref b), (1, .ref (base + 0)), (2, .ref (base + 41)), (3, .int x95)]) [1, 2, 3, 0] rfl ?_
                                                exact ih x95 M94 h
                                              · have h := h.2 c
                                                refine g_iconst X (v := (0 : Int32)) dLW_law_721 (by decide) ?_
                                                exact h.elim
                                            · have h := h.2 c
                                              refine gSw_cons (fun c => ?_) (fun c => ?_)
                                              · have h := h.1 c
                                                refine g_aload_n X dLW_law_723 rfl 1 rfl ?_
                                                refine g_aload_n X dLW_law_724 rfl 0 rfl ?_
                                                refine g_iload_n X dLW_law_725 rfl 3 rfl ?_
                                                refine g_iconst X (v := (1 : Int32)) dLW_law_726 (by decide) ?_
                                                refine g_iadd X dLW_law_727 ?_
                                                obtain ⟨hi, h⟩ := h
                                                refine g_sld X hX hbl hbA hi dLW_law_728 ?_
                                                refine g_callV X hK gTs_ok ly_0 rfl mw_OF_count tw_901 mi_OF_count ms_OF_count (As := [.int (xs (v3 + (1 : Int32)).toNatClampNeg)]) rfl ⟨(Nat.le_of_ble_eq_true rfl), (Nat.le_of_ble_eq_true rfl), Nat.le_refl _, Nat.le_refl _⟩ (m_OF_count h) (rest := []) rfl (Nat.le_of_ble_eq_true rfl) dLW_law_729 (gk_i (fun r96 M97 h => ?_))
                                                refine g_aload_n X dLW_law_732 rfl 2 rfl ?_
                                                refine g_aload_n X dLW_law_733 rfl 0 rfl ?_
                                                refine g_iload_n X dLW_law_734 rfl 3 rfl ?_
                                                refine g_iconst X (v := (1 : Int32)) dLW_law_735 (by decide) ?_
                                                refine g_iadd X dLW_law_736 ?_
                                                obtain ⟨hi, h⟩ := h
                                                refine g_sld X hX hbl hbA hi dLW_law_737 ?_
                                                refine g_callV X hK gTs_ok ly_41 rfl mw_MO_count tw_1385 mi_MO_count ms_MO_count (As := [.int (xs (v3 + (1 : Int32)).toNatClampNeg)]) rfl ⟨(Nat.le_of_ble_eq_true rfl), (Nat.le_of_ble_eq_true rfl), Nat.le_refl _, Nat.le_refl _⟩ (m_MO_count h) (rest := [.int r96]) rfl (Nat.le_of_ble_eq_true rfl) dLW_law_738 (gk_i (fun r98 M99 h => ?_))
                                                refine g_icmp_eq X dLW_law_741 (fun c => ?_) (fun c => ?_)
                                                · have h := h.1 c
                                                  obtain ⟨x100, ex100⟩ : ∃ z : Int32, z = v3 + (6 : Int32) := ⟨_, rfl⟩
                                                  have h := h x100 ex100
                                                  refine g_iinc X (L' := [(3, .int x100), (0, .ref b), (1, .ref (base + 0)), (2, .ref (base + 41))]) (k := 3) dLW_law_835 rfl (v := x100) (by rw [ex100]; rfl) (Nat.le_of_ble_eq_true rfl) rfl ?_
                                                  refine g_goto X dLW_law_838 ?_
                                                  refine g_sub (L' := [(0, .ref b), (1, .ref (base + 0)), (2, .ref (base + 41)), (3, .int x100)]) [1, 2, 3, 0] rfl ?_
                                                  exact ih x100 M99 h
                                                · have h := h.2 c
                                                  refine g_iconst X (v := (0 : Int32)) dLW_law_744 (by decide) ?_
                                                  exact h.elim
                                              · have h := h.2 c
                                                refine gSw_cons (fun c => ?_) (fun c => ?_)
                                                · have h := h.1 c
                                                  refine g_aload_n X dLW_law_746 rfl 1 rfl ?_
                                                  refine g_aload_n X dLW_law_747 rfl 0 rfl ?_
                                                  refine g_iload_n X dLW_law_748 rfl 3 rfl ?_
                                                  refine g_iconst X (v := (1 : Int32)) dLW_law_749 (by decide) ?_
                                                  refine g_iadd X dLW_law_750 ?_
                                                  obtain ⟨hi, h⟩ := h
                                                  refine g_sld X hX hbl hbA hi dLW_law_751 ?_
                                                  refine g_callV X hK gTs_ok ly_0 rfl mw_OF_startAt tw_906 mi_OF_startAt ms_OF_startAt (As := [.int (xs (v3 + (1 : Int32)).toNatClampNeg)]) rfl ⟨(Nat.le_of_ble_eq_true rfl), (Nat.le_of_ble_eq_true rfl), Nat.le_refl _, Nat.le_refl _⟩ (m_OF_startAt h) (rest := []) rfl (Nat.le_of_ble_eq_true rfl) dLW_law_752 (gk_i (fun r101 M102 h => ?_))
                                                  refine g_aload_n X dLW_law_755 rfl 2 rfl ?_
                                                  refine g_aload_n X dLW_law_756 rfl 0 rfl ?_
                                                  refine g_iload_n X dLW_law_757 rfl 3 rfl ?_
                                                  refine g_iconst X (v := (1 : Int32)) dLW_law_758 (by decide) ?_
                                                  refine g_iadd X dLW_law_759 ?_
                                                  obtain ⟨hi, h⟩ := h
                                                  refine g_sld X hX hbl hbA hi dLW_law_760 ?_
                                                  refine g_callV X hK gTs_ok ly_41 rfl mw_MO_startAt tw_1389 mi_MO_startAt ms_MO_startAt (As := [.int (xs (v3 + (1 : Int32)).toNatClampNeg)]) rfl ⟨(Nat.le_of_ble_eq_true rfl), (Nat.le_of_ble_eq_true rfl), Nat.le_refl _, Nat.le_refl _⟩ (m_MO_startAt h) (rest := [.int r101]) rfl (Nat.le_of_ble_eq_true rfl) dLW_law_761 (gk_i (fun r103 M104 h => ?_))
                                                  refine g_icmp_eq X dLW_law_764 (fun c => ?_) (fun c => ?_)
                                                  · have h := h.1 c
                                                    obtain ⟨x105, ex105⟩ : ∃ z : Int32, z = v3 + (6 : Int32) := ⟨_, rfl⟩
                                                    have h := h x105 ex105
                                                    refine g_iinc X (L' := [(3, .int x105), (0, .ref b), (1, .ref (base + 0)), (2, .ref (base + 41))]) (k := 3) dLW_law_835 rfl (v := x105) (by rw [ex105]; rfl) (Nat.le_of_ble_eq_true rfl) rfl ?_
                                                    refine g_goto X dLW_law_838 ?_
                                                    refine g_sub (L' := [(0, .ref b), (1, .ref (base + 0)), (2, .ref (base + 41)), (3, .int x105)]) [1, 2, 3, 0] rfl ?_
                                                    exact ih x105 M104 h
                                                  · have h := h.2 c
                                                    refine g_iconst X (v := (0 : Int32)) dLW_law_767 (by decide) ?_
                                                    exact h.elim
                                                · have h := h.2 c
                                                  refine gSw_cons (fun c => ?_) (fun c => ?_)
                                                  · have h := h.1 c
                                                    refine g_aload_n X dLW_law_769 rfl 1 rfl ?_
                                                    refine g_aload_n X dLW_law_770 rfl 0 rfl ?_
                                                    refine g_iload_n X dLW_law_771 rfl 3 rfl ?_
                                                    refine g_iconst X (v := (1 : Int32)) dLW_law_772 (by decide) ?_
                                                    refine g_iadd X dLW_law_773 ?_
                                                    obtain ⟨hi, h⟩ := h
                                                    refine g_sld X hX hbl hbA hi dLW_law_774 ?_
                                                    refine g_aload_n X dLW_law_775 rfl 0 rfl ?_
                                                    refine g_iload_n X dLW_law_776 rfl 3 rfl ?_
                                                    refine g_iconst X (v := (2 : Int32)) dLW_law_777 (by decide) ?_
                                                    refine g_iadd X dLW_law_778 ?_
                                                    obtain ⟨hi, h⟩ := h
                                                    refine g_sld X hX hbl hbA hi dLW_law_779 ?_
                                                    refine g_callV X hK gTs_ok ly_0 rfl mw_OF_symbolAt tw_911 mi_OF_symbolAt ms_OF_symbolAt (As := [.int (xs (v3 + (1 : Int32)).toNatClampNeg), .int (xs (v3 + (2 : Int32)).toNatClampNeg)]) rfl ⟨(Nat.le_of_ble_eq_true rfl), (Nat.le_of_ble_eq_true rfl), Nat.le_refl _, Nat.le_refl _⟩ (m_OF_symbolAt h) (rest := []) rfl (Nat.le_of_ble_eq_true rfl) dLW_law_780 (gk_i (fun r106 M107 h => ?_))
                                                    refine g_aload_n X dLW_law_783 rfl 2 rfl ?_
                                                    refine g_aload_n X dLW_law_784 rfl 0 rfl ?_
                                                    refine g_iload_n X dLW_law_785 rfl 3 rfl ?_
                                                    refine g_iconst X (v := (1 : Int32)) dLW_law_786 (by decide) ?_
                                                    refine g_iadd X dLW_law_787 ?_
                                                    obtain ⟨hi, h⟩ := h
                                                    refine g_sld X hX hbl hbA hi dLW_law_788 ?_
                                                    refine g_aload_n X dLW_law_789 rfl 0 rfl ?_
                                                    refine g_iload_n X dLW_law_790 rfl 3 rfl ?_
                                                    refine g_iconst X (v := (2 : Int32)) dLW_law_791 (by decide) ?_
                                                    refine g_iadd X dLW_law_792 ?_
                                                    obtain ⟨hi, h⟩ := h
                                                    refine g_sld X hX hbl hbA hi dLW_law_793 ?_
                                                    refine g_callV X hK gTs_ok ly_41 rfl mw_MO_symbolAt tw_1393 mi_MO_symbolAt ms_MO_symbolAt (As := [.int (xs (v3 + (1 : Int32)).toNatClampNeg), .int (xs (v3 + (2 : Int32)).toNatClampNeg)]) rfl ⟨(Nat.le_of_ble_eq_true rfl), (Nat.le_of_ble_eq_true rfl), Nat.le_refl _, Nat.le_refl _⟩ (m_MO_symbolAt h) (rest := [.int r106]) rfl (Nat.le_of_ble_eq_true rfl) dLW_law_794 (gk_i (fun r108 M109 h => ?_))
                                                    refine g_icmp_eq X dLW_law_797 (fun c => ?_) (fun c => ?_)
                                                    · have h := h.1 c
                                                      obtain ⟨x110, ex110⟩ : ∃ z : Int32, z = v3 + (6 : Int32) := ⟨_, rfl⟩
                                                      have h := h x110 ex110
                                                      refine g_iinc X (L' := [(3, .int x110), (0, .ref b), (1, .ref (base + 0)), (2, .ref (base + 41))]) (k := 3) dLW_law_835 rfl (v := x110) (by rw [ex110]; rfl) (Nat.le_of_ble_eq_true rfl) rfl ?_
                                                      refine g_goto X dLW_law_838 ?_
                                                      refine g_sub (L' := [(0, .ref b), (1, .ref (base + 0)), (2, .ref (base + 41)), (3, .int x110)]) [1, 2, 3, 0] rfl ?_
                                                      exact ih x110 M109 h
                                                    · have h := h.2 c
                                                      refine g_iconst X (v := (0 : Int32)) dLW_law_800 (by decide) ?_
                                                      exact h.elim
                                                  · have h := h.2 c
                                                    refine gSw_cons (fun c => ?_) (fun c => ?_)
                                                    · have h := h.1 c
                                                      refine g_aload_n X dLW_law_802 rfl 1 rfl ?_
                                                      refine g_aload_n X dLW_law_803 rfl 0 rfl ?_
                                                      refine g_iload_n X dLW_law_804 rfl 3 rfl ?_
                                                      refine g_iconst X (v := (1 : Int32)) dLW_law_805 (by decide) ?_
                                                      refine g_iadd X dLW_law_806 ?_
                                                      obtain ⟨hi, h⟩ := h
                                                      refine g_sld X hX hbl hbA hi dLW_law_807 ?_
                                                      refine g_aload_n X dLW_law_808 rfl 0 rfl ?_
                                                      refine g_iload_n X dLW_law_809 rfl 3 rfl ?_
                                                      refine g_iconst X (v := (2 : Int32)) dLW_law_810 (by decide) ?_
                                                      refine g_iadd X dLW_law_811 ?_
                                                      obtain ⟨hi, h⟩ := h
                                                      refine g_sld X hX hbl hbA hi dLW_law_812 ?_
                                                      refine g_callV X hK gTs_ok ly_0 rfl mw_OF_relocationAt tw_917 mi_OF_relocationAt ms_OF_relocationAt (As := [.int (xs (v3 + (1 : Int32)).toNatClampNeg), .int (xs (v3 + (2 : Int32)).toNatClampNeg)]) rfl ⟨(Nat.le_of_ble_eq_true rfl), (Nat.le_of_ble_eq_true rfl), Nat.le_refl _, Nat.le_refl _⟩ (m_OF_relocationAt h) (rest := []) rfl (Nat.le_of_ble_eq_true rfl) dLW_law_813 (gk_i (fun r111 M112 h => ?_))
                                                      refine g_aload_n X dLW_law_816 rfl 2 rfl ?_
                                                      refine g_aload_n X dLW_law_817 rfl 0 rfl ?_
                                                      refine g_iload_n X dLW_law_818 rfl 3 rfl ?_
                                                      refine g_iconst X (v := (1 : Int32)) dLW_law_819 (by decide) ?_
                                                      refine g_iadd X dLW_law_820 ?_
                                                      obtain ⟨hi, h⟩ := h
                                                      refine g_sld X hX hbl hbA hi dLW_law_821 ?_
                                                      refine g_aload_n X dLW_law_822 rfl 0 rfl ?_
                                                      refine g_iload_n X dLW_law_823 rfl 3 rfl ?_
                                                      refine g_iconst X (v := (2 : Int32)) dLW_law_824 (by decide) ?_
                                                      refine g_iadd X dLW_law_825 ?_
                                                      obtain ⟨hi, h⟩ := h
                                                      refine g_sld X hX hbl hbA hi dLW_law_826 ?_
                                                      refine g_callV X hK gTs_ok ly_41 rfl mw_MO_relocationAt tw_1397 mi_MO_relocationAt ms_MO_relocationAt (As := [.int (xs (v3 + (1 : Int32)).toNatClampNeg), .int (xs (v3 + (2 : Int32)).toNatClampNeg)]) rfl ⟨(Nat.le_of_ble_eq_true rfl), (Nat.le_of_ble_eq_true rfl), Nat.le_refl _, Nat.le_refl _⟩ (m_MO_relocationAt h) (rest := [.int r111]) rfl (Nat.le_of_ble_eq_true rfl) dLW_law_827 (gk_i (fun r113 M114 h => ?_))
                                                      refine g_icmp_eq X dLW_law_830 (fun c => ?_) (fun c => ?_)
                                                      · have h := h.1 c
                                                        obtain ⟨x115, ex115⟩ : ∃ z : Int32, z = v3 + (6 : Int32) := ⟨_, rfl⟩
                                                        have h := h x115 ex115
                                                        refine g_iinc X (L' := [(3, .int x115), (0, .ref b), (1, .ref (base + 0)), (2, .ref (base + 41))]) (k := 3) dLW_law_835 rfl (v := x115) (by rw [ex115]; rfl) (Nat.le_of_ble_eq_true rfl) rfl ?_
                                                        refine g_goto X dLW_law_838 ?_
                                                        refine g_sub (L' := [(0, .ref b), (1, .ref (base + 0)), (2, .ref (base + 41)), (3, .int x115)]) [1, 2, 3, 0] rfl ?_
                                                        exact ih x115 M114 h
                                                      · have h := h.2 c
                                                        refine g_iconst X (v := (0 : Int32)) dLW_law_833 (by decide) ?_
                                                        exact h.elim
                                                    · have h := h.2 c
                                                      refine gSw_nil ?_
                                                      obtain ⟨x116, ex116⟩ : ∃ z : Int32, z = v3 + (6 : Int32) := ⟨_, rfl⟩
                                                      have h := h x116 ex116
                                                      refine g_iinc X (L' := [(3, .int x116), (0, .ref b), (1, .ref (base + 0)), (2, .ref (base + 41))]) (k := 3) dLW_law_835 rfl (v := x116) (by rw [ex116]; rfl) (Nat.le_of_ble_eq_true rfl) rfl ?_
                                                      refine g_goto X dLW_law_838 ?_
                                                      refine g_sub (L' := [(0, .ref b), (1, .ref (base + 0)), (2, .ref (base + 41)), (3, .int x116)]) [1, 2, 3, 0] rfl ?_
                                                      exact ih x116 M h
  unfold wp_LW_law at h
  refine g_iconst X (v := (0 : Int32)) dLW_law_16 (by decide) ?_
  refine g_istore_n X (L' := [(3, .int (0 : Int32)), (2, .ref (base + 41)), (1, .ref (base + 0)), (0, .ref b)]) dLW_law_17 rfl (Nat.le_of_ble_eq_true rfl) rfl ?_
  refine g_sub (L' := [(0, .ref b), (1, .ref (base + 0)), (2, .ref (base + 41)), (3, .int (0 : Int32))]) [3, 2, 1, 0] rfl ?_
  obtain ⟨n9, h⟩ := h
  exact r_18 n9 (0 : Int32) M h
