/-! THE CLAIM OUT OF ONE WALK OF THE LAW'S BODY. Your part is whole_start (and what it stands on); all else here is the same for every law, but numbers. -/
def R_law : String := "ObjectFileLaw"
def lw_P (b : Addr) (xs : List Int32) (args : Array Value) (s : State) : Prop := args = #[.ref b] ∧ s.IntsAt b xs ∧ xs.length ≤ 3072 ∧ (Jvm.Cond.and given_1 narrow_1).before args s = true
def lw_Q (_ : Array Value) (s : State) (o : Outcome) (t : State) : Prop := o = .returned (some (.int 1)) ∧ Framed s o t [] 75 66336
def lw_Z (below : List Frame) (a : Array Value) (s : State) : State → Prop := fun t => ∃ o, t.status = .running ∧ Ended t below o ∧ lw_Q a s o t
/-- the law's own end, with 1 on the stack, nothing written that was there before, its room as the claim has it -/
theorem lw_ret {p : Program} {l : Launch} {e : Env} {s : State} {m : MethodId} {below : List Frame} {meth : Method} {c : Code} {b : Nat} (hx : p.tables.exec = Jvm.exec) (hb : c.code = code) (hr : meth.sig.returnType = ret) (hlocks : meth.locks = false) {pc : Nat} {H : Heap} {ls : Array Slot} (hdg : decode code pc = .ok (.ireturn, 1)) : W p l e room_1 s m #[Value.ref b] below meth c H [] 75 66336 (lw_Z below #[Value.ref b] s) (F0 m pc ls [.int 1]) := by
  intro T hT X
  obtain ⟨fs, hret, hrun, hended, hW, hframe⟩ := X.leave (v := some (.int 1)) (hlocks := hlocks) (fun h => by rw [hr] at h; cases h)
  have hmeth' : T.vm.method? m = some meth := X.method'
  refine ⟨T.setFrames fs, ?_, .returned (some (.int 1)), hrun, hended, rfl, ⟨_, rfl⟩, hW, hframe⟩
  jvm_step X.here [X.here.top, hx, hb, hdg, hmeth', hr, ret, narrow_b1]
  (try refine ⟨rfl, ?_⟩); (try refine ⟨rfl, ?_⟩)
  first | (intro acts; rw [hret _ acts rfl rfl rfl]) | rw [hret _ _ rfl rfl rfl]
  exact Steps.refl _
/-- what holds at the law's entry: the machine, the code, the tables' words (any of lw_tbl by 'hts w (by decide +kernel)'), the script of L ints xs at the cell b, what the Statement gives of the start (any of its parts by flat_of_before) -/
def lw_At (p : Program) (s : State) (m : MethodId) (meth : Method) (c : Code) (b L : Nat) (xs : Nat → Int32) : Prop :=
  p.tables.exec = Jvm.exec ∧ c.code = code ∧ meth.sig.returnType = ret ∧ c.maxLocals = 4 ∧ s.vm.findClass R_law = some m.cls ∧ (∀ w ∈ lw_tbl, w.before #[Value.ref b] s = true) ∧ va_X b L xs s s.heap ∧ b < s.heap.size ∧ meth.locks = false ∧ (Jvm.Cond.and given_1 narrow_1).before #[Value.ref b] s = true

theorem dLW_law_0 : decode b_LW_law 0 = .ok (.new 7, 3) ∧ 0 + 3 = 3 := ⟨by decide +kernel, rfl⟩
theorem dLW_law_3 : decode b_LW_law 3 = .ok (.dup, 1) ∧ 3 + 1 = 4 := ⟨by decide +kernel, rfl⟩
theorem dLW_law_4 : decode b_LW_law 4 = .ok (.invokespecial 9, 3) ∧ 4 + 3 = 7 := ⟨by decide +kernel, rfl⟩
theorem dLW_law_7 : decode b_LW_law 7 = .ok (.astore_n 1, 1) ∧ 7 + 1 = 8 := ⟨by decide +kernel, rfl⟩
theorem dLW_law_8 : decode b_LW_law 8 = .ok (.new 10, 3) ∧ 8 + 3 = 11 := ⟨by decide +kernel, rfl⟩
theorem dLW_law_11 : decode b_LW_law 11 = .ok (.dup, 1) ∧ 11 + 1 = 12 := ⟨by decide +kernel, rfl⟩
theorem dLW_law_12 : decode b_LW_law 12 = .ok (.invokespecial 12, 3) ∧ 12 + 3 = 15 := ⟨by decide +kernel, rfl⟩
theorem dLW_law_15 : decode b_LW_law 15 = .ok (.astore_n 2, 1) ∧ 15 + 1 = 16 := ⟨by decide +kernel, rfl⟩
theorem dLW_law_16 : decode b_LW_law 16 = .ok (.iconst 0, 1) ∧ 16 + 1 = 17 := ⟨by decide +kernel, rfl⟩
theorem dLW_law_17 : decode b_LW_law 17 = .ok (.istore_n 3, 1) ∧ 17 + 1 = 18 := ⟨by decide +kernel, rfl⟩
theorem dLW_law_18 : decode b_LW_law 18 = .ok (.iload_n 3, 1) ∧ 18 + 1 = 19 := ⟨by decide +kernel, rfl⟩
theorem dLW_law_19 : decode b_LW_law 19 = .ok (.aload_n 0, 1) ∧ 19 + 1 = 20 := ⟨by decide +kernel, rfl⟩
theorem dLW_law_20 : decode b_LW_law 20 = .ok (.arraylength, 1) ∧ 20 + 1 = 21 := ⟨by decide +kernel, rfl⟩
theorem dLW_law_21 : decode b_LW_law 21 = .ok (.bipush (6), 2) ∧ 21 + 2 = 23 := ⟨by decide +kernel, rfl⟩
theorem dLW_law_23 : decode b_LW_law 23 = .ok (.isub, 1) ∧ 23 + 1 = 24 := ⟨by decide +kernel, rfl⟩
theorem dLW_law_24 : decode b_LW_law 24 = .ok (.if_icmp .gt (817), 3) ∧ 24 + 3 = 27 ∧ ((24 : Nat) : Int) + (817) = ((841 : Nat) : Int) := ⟨by decide +kernel, rfl, by decide⟩
theorem dLW_law_27 : decode b_LW_law 27 = .ok (.aload_n 0, 1) ∧ 27 + 1 = 28 := ⟨by decide +kernel, rfl⟩
theorem dLW_law_28 : decode b_LW_law 28 = .ok (.iload_n 3, 1) ∧ 28 + 1 = 29 := ⟨by decide +kernel, rfl⟩
theorem dLW_law_29 : decode b_LW_law 29 = .ok (.iaload, 1) ∧ 29 + 1 = 30 := ⟨by decide +kernel, rfl⟩
theorem dLW_law_30 : decode b_LW_law 30 = .ok (.bipush (31), 2) ∧ 30 + 2 = 32 := ⟨by decide +kernel, rfl⟩
theorem dLW_law_32 : decode b_LW_law 32 = .ok (.iand, 1) ∧ 32 + 1 = 33 := ⟨by decide +kernel, rfl⟩
theorem dLW_law_33 : decode b_LW_law 33 = .ok (.tableswitch (802) (0) (22) #[107, 118, 191, 214, 247, 270, 293, 356, 419, 432, 445, 468, 531, 554, 587, 600, 613, 624, 657, 690, 713, 736, 769], 107) ∧ True := ⟨by decide +kernel, trivial⟩
theorem dLW_law_140 : decode b_LW_law 140 = .ok (.aload_n 1, 1) ∧ 140 + 1 = 141 := ⟨by decide +kernel, rfl⟩
theorem dLW_law_141 : decode b_LW_law 141 = .ok (.invokevirtual 13, 3) ∧ 141 + 3 = 144 := ⟨by decide +kernel, rfl⟩
theorem dLW_law_144 : decode b_LW_law 144 = .ok (.aload_n 2, 1) ∧ 144 + 1 = 145 := ⟨by decide +kernel, rfl⟩
theorem dLW_law_145 : decode b_LW_law 145 = .ok (.invokevirtual 16, 3) ∧ 145 + 3 = 148 := ⟨by decide +kernel, rfl⟩
theorem dLW_law_148 : decode b_LW_law 148 = .ok (.goto (687), 3) ∧ 148 + 3 = 151 ∧ ((148 : Nat) : Int) + (687) = ((835 : Nat) : Int) := ⟨by decide +kernel, rfl, by decide⟩
theorem dLW_law_151 : decode b_LW_law 151 = .ok (.aload_n 1, 1) ∧ 151 + 1 = 152 := ⟨by decide +kernel, rfl⟩
theorem dLW_law_152 : decode b_LW_law 152 = .ok (.aload_n 0, 1) ∧ 152 + 1 = 153 := ⟨by decide +kernel, rfl⟩
theorem dLW_law_153 : decode b_LW_law 153 = .ok (.iload_n 3, 1) ∧ 153 + 1 = 154 := ⟨by decide +kernel, rfl⟩
theorem dLW_law_154 : decode b_LW_law 154 = .ok (.iconst 1, 1) ∧ 154 + 1 = 155 := ⟨by decide +kernel, rfl⟩
theorem dLW_law_155 : decode b_LW_law 155 = .ok (.iadd, 1) ∧ 155 + 1 = 156 := ⟨by decide +kernel, rfl⟩
theorem dLW_law_156 : decode b_LW_law 156 = .ok (.iaload, 1) ∧ 156 + 1 = 157 := ⟨by decide +kernel, rfl⟩
theorem dLW_law_157 : decode b_LW_law 157 = .ok (.aload_n 0, 1) ∧ 157 + 1 = 158 := ⟨by decide +kernel, rfl⟩
theorem dLW_law_158 : decode b_LW_law 158 = .ok (.iload_n 3, 1) ∧ 158 + 1 = 159 := ⟨by decide +kernel, rfl⟩
theorem dLW_law_159 : decode b_LW_law 159 = .ok (.iconst 2, 1) ∧ 159 + 1 = 160 := ⟨by decide +kernel, rfl⟩
theorem dLW_law_160 : decode b_LW_law 160 = .ok (.iadd, 1) ∧ 160 + 1 = 161 := ⟨by decide +kernel, rfl⟩
theorem dLW_law_161 : decode b_LW_law 161 = .ok (.iaload, 1) ∧ 161 + 1 = 162 := ⟨by decide +kernel, rfl⟩
theorem dLW_law_162 : decode b_LW_law 162 = .ok (.aload_n 0, 1) ∧ 162 + 1 = 163 := ⟨by decide +kernel, rfl⟩
theorem dLW_law_163 : decode b_LW_law 163 = .ok (.iload_n 3, 1) ∧ 163 + 1 = 164 := ⟨by decide +kernel, rfl⟩
theorem dLW_law_164 : decode b_LW_law 164 = .ok (.iconst 3, 1) ∧ 164 + 1 = 165 := ⟨by decide +kernel, rfl⟩
theorem dLW_law_165 : decode b_LW_law 165 = .ok (.iadd, 1) ∧ 165 + 1 = 166 := ⟨by decide +kernel, rfl⟩
theorem dLW_law_166 : decode b_LW_law 166 = .ok (.iaload, 1) ∧ 166 + 1 = 167 := ⟨by decide +kernel, rfl⟩
theorem dLW_law_167 : decode b_LW_law 167 = .ok (.i2l, 1) ∧ 167 + 1 = 168 := ⟨by decide +kernel, rfl⟩
theorem dLW_law_168 : decode b_LW_law 168 = .ok (.bipush (32), 2) ∧ 168 + 2 = 170 := ⟨by decide +kernel, rfl⟩
theorem dLW_law_170 : decode b_LW_law 170 = .ok (.lshl, 1) ∧ 170 + 1 = 171 := ⟨by decide +kernel, rfl⟩
theorem dLW_law_171 : decode b_LW_law 171 = .ok (.aload_n 0, 1) ∧ 171 + 1 = 172 := ⟨by decide +kernel, rfl⟩
theorem dLW_law_172 : decode b_LW_law 172 = .ok (.iload_n 3, 1) ∧ 172 + 1 = 173 := ⟨by decide +kernel, rfl⟩
theorem dLW_law_173 : decode b_LW_law 173 = .ok (.iconst 4, 1) ∧ 173 + 1 = 174 := ⟨by decide +kernel, rfl⟩
theorem dLW_law_174 : decode b_LW_law 174 = .ok (.iadd, 1) ∧ 174 + 1 = 175 := ⟨by decide +kernel, rfl⟩
theorem dLW_law_175 : decode b_LW_law 175 = .ok (.iaload, 1) ∧ 175 + 1 = 176 := ⟨by decide +kernel, rfl⟩
theorem dLW_law_176 : decode b_LW_law 176 = .ok (.i2l, 1) ∧ 176 + 1 = 177 := ⟨by decide +kernel, rfl⟩
theorem dLW_law_177 : decode b_LW_law 177 = .ok (.ldc2_w 17, 3) ∧ 177 + 3 = 180 := ⟨by decide +kernel, rfl⟩
theorem dLW_law_180 : decode b_LW_law 180 = .ok (.land, 1) ∧ 180 + 1 = 181 := ⟨by decide +kernel, rfl⟩
theorem dLW_law_181 : decode b_LW_law 181 = .ok (.lor, 1) ∧ 181 + 1 = 182 := ⟨by decide +kernel, rfl⟩
theorem dLW_law_182 : decode b_LW_law 182 = .ok (.invokevirtual 19, 3) ∧ 182 + 3 = 185 := ⟨by decide +kernel, rfl⟩
theorem dLW_law_185 : decode b_LW_law 185 = .ok (.aload_n 2, 1) ∧ 185 + 1 = 186 := ⟨by decide +kernel, rfl⟩
theorem dLW_law_186 : decode b_LW_law 186 = .ok (.aload_n 0, 1) ∧ 186 + 1 = 187 := ⟨by decide +kernel, rfl⟩
theorem dLW_law_187 : decode b_LW_law 187 = .ok (.iload_n 3, 1) ∧ 187 + 1 = 188 := ⟨by decide +kernel, rfl⟩
theorem dLW_law_188 : decode b_LW_law 188 = .ok (.iconst 1, 1) ∧ 188 + 1 = 189 := ⟨by decide +kernel, rfl⟩
theorem dLW_law_189 : decode b_LW_law 189 = .ok (.iadd, 1) ∧ 189 + 1 = 190 := ⟨by decide +kernel, rfl⟩
theorem dLW_law_190 : decode b_LW_law 190 = .ok (.iaload, 1) ∧ 190 + 1 = 191 := ⟨by decide +kernel, rfl⟩
theorem dLW_law_191 : decode b_LW_law 191 = .ok (.aload_n 0, 1) ∧ 191 + 1 = 192 := ⟨by decide +kernel, rfl⟩
theorem dLW_law_192 : decode b_LW_law 192 = .ok (.iload_n 3, 1) ∧ 192 + 1 = 193 := ⟨by decide +kernel, rfl⟩
theorem dLW_law_193 : decode b_LW_law 193 = .ok (.iconst 2, 1) ∧ 193 + 1 = 194 := ⟨by decide +kernel, rfl⟩
theorem dLW_law_194 : decode b_LW_law 194 = .ok (.iadd, 1) ∧ 194 + 1 = 195 := ⟨by decide +kernel, rfl⟩
theorem dLW_law_195 : decode b_LW_law 195 = .ok (.iaload, 1) ∧ 195 + 1 = 196 := ⟨by decide +kernel, rfl⟩
theorem dLW_law_196 : decode b_LW_law 196 = .ok (.aload_n 0, 1) ∧ 196 + 1 = 197 := ⟨by decide +kernel, rfl⟩
theorem dLW_law_197 : decode b_LW_law 197 = .ok (.iload_n 3, 1) ∧ 197 + 1 = 198 := ⟨by decide +kernel, rfl⟩
theorem dLW_law_198 : decode b_LW_law 198 = .ok (.iconst 3, 1) ∧ 198 + 1 = 199 := ⟨by decide +kernel, rfl⟩
theorem dLW_law_199 : decode b_LW_law 199 = .ok (.iadd, 1) ∧ 199 + 1 = 200 := ⟨by decide +kernel, rfl⟩
theorem dLW_law_200 : decode b_LW_law 200 = .ok (.iaload, 1) ∧ 200 + 1 = 201 := ⟨by decide +kernel, rfl⟩
theorem dLW_law_201 : decode b_LW_law 201 = .ok (.i2l, 1) ∧ 201 + 1 = 202 := ⟨by decide +kernel, rfl⟩
theorem dLW_law_202 : decode b_LW_law 202 = .ok (.bipush (32), 2) ∧ 202 + 2 = 204 := ⟨by decide +kernel, rfl⟩
theorem dLW_law_204 : decode b_LW_law 204 = .ok (.lshl, 1) ∧ 204 + 1 = 205 := ⟨by decide +kernel, rfl⟩
theorem dLW_law_205 : decode b_LW_law 205 = .ok (.aload_n 0, 1) ∧ 205 + 1 = 206 := ⟨by decide +kernel, rfl⟩
theorem dLW_law_206 : decode b_LW_law 206 = .ok (.iload_n 3, 1) ∧ 206 + 1 = 207 := ⟨by decide +kernel, rfl⟩
theorem dLW_law_207 : decode b_LW_law 207 = .ok (.iconst 4, 1) ∧ 207 + 1 = 208 := ⟨by decide +kernel, rfl⟩
theorem dLW_law_208 : decode b_LW_law 208 = .ok (.iadd, 1) ∧ 208 + 1 = 209 := ⟨by decide +kernel, rfl⟩
theorem dLW_law_209 : decode b_LW_law 209 = .ok (.iaload, 1) ∧ 209 + 1 = 210 := ⟨by decide +kernel, rfl⟩
theorem dLW_law_210 : decode b_LW_law 210 = .ok (.i2l, 1) ∧ 210 + 1 = 211 := ⟨by decide +kernel, rfl⟩
theorem dLW_law_211 : decode b_LW_law 211 = .ok (.ldc2_w 17, 3) ∧ 211 + 3 = 214 := ⟨by decide +kernel, rfl⟩
theorem dLW_law_214 : decode b_LW_law 214 = .ok (.land, 1) ∧ 214 + 1 = 215 := ⟨by decide +kernel, rfl⟩
theorem dLW_law_215 : decode b_LW_law 215 = .ok (.lor, 1) ∧ 215 + 1 = 216 := ⟨by decide +kernel, rfl⟩
theorem dLW_law_216 : decode b_LW_law 216 = .ok (.invokevirtual 23, 3) ∧ 216 + 3 = 219 := ⟨by decide +kernel, rfl⟩
theorem dLW_law_219 : decode b_LW_law 219 = .ok (.if_icmp .eq (616), 3) ∧ 219 + 3 = 222 ∧ ((219 : Nat) : Int) + (616) = ((835 : Nat) : Int) := ⟨by decide +kernel, rfl, by decide⟩
theorem dLW_law_222 : decode b_LW_law 222 = .ok (.iconst 0, 1) ∧ 222 + 1 = 223 := ⟨by decide +kernel, rfl⟩
theorem dLW_law_224 : decode b_LW_law 224 = .ok (.aload_n 1, 1) ∧ 224 + 1 = 225 := ⟨by decide +kernel, rfl⟩
theorem dLW_law_225 : decode b_LW_law 225 = .ok (.aload_n 0, 1) ∧ 225 + 1 = 226 := ⟨by decide +kernel, rfl⟩
theorem dLW_law_226 : decode b_LW_law 226 = .ok (.iload_n 3, 1) ∧ 226 + 1 = 227 := ⟨by decide +kernel, rfl⟩
theorem dLW_law_227 : decode b_LW_law 227 = .ok (.iconst 1, 1) ∧ 227 + 1 = 228 := ⟨by decide +kernel, rfl⟩
theorem dLW_law_228 : decode b_LW_law 228 = .ok (.iadd, 1) ∧ 228 + 1 = 229 := ⟨by decide +kernel, rfl⟩
theorem dLW_law_229 : decode b_LW_law 229 = .ok (.iaload, 1) ∧ 229 + 1 = 230 := ⟨by decide +kernel, rfl⟩
theorem dLW_law_230 : decode b_LW_law 230 = .ok (.invokevirtual 24, 3) ∧ 230 + 3 = 233 := ⟨by decide +kernel, rfl⟩
theorem dLW_law_233 : decode b_LW_law 233 = .ok (.aload_n 2, 1) ∧ 233 + 1 = 234 := ⟨by decide +kernel, rfl⟩
theorem dLW_law_234 : decode b_LW_law 234 = .ok (.aload_n 0, 1) ∧ 234 + 1 = 235 := ⟨by decide +kernel, rfl⟩
theorem dLW_law_235 : decode b_LW_law 235 = .ok (.iload_n 3, 1) ∧ 235 + 1 = 236 := ⟨by decide +kernel, rfl⟩
theorem dLW_law_236 : decode b_LW_law 236 = .ok (.iconst 1, 1) ∧ 236 + 1 = 237 := ⟨by decide +kernel, rfl⟩
theorem dLW_law_237 : decode b_LW_law 237 = .ok (.iadd, 1) ∧ 237 + 1 = 238 := ⟨by decide +kernel, rfl⟩
theorem dLW_law_238 : decode b_LW_law 238 = .ok (.iaload, 1) ∧ 238 + 1 = 239 := ⟨by decide +kernel, rfl⟩
theorem dLW_law_239 : decode b_LW_law 239 = .ok (.invokevirtual 28, 3) ∧ 239 + 3 = 242 := ⟨by decide +kernel, rfl⟩
theorem dLW_law_242 : decode b_LW_law 242 = .ok (.if_icmp .eq (593), 3) ∧ 242 + 3 = 245 ∧ ((242 : Nat) : Int) + (593) = ((835 : Nat) : Int) := ⟨by decide +kernel, rfl, by decide⟩
theorem dLW_law_245 : decode b_LW_law 245 = .ok (.iconst 0, 1) ∧ 245 + 1 = 246 := ⟨by decide +kernel, rfl⟩
theorem dLW_law_247 : decode b_LW_law 247 = .ok (.aload_n 1, 1) ∧ 247 + 1 = 248 := ⟨by decide +kernel, rfl⟩
theorem dLW_law_248 : decode b_LW_law 248 = .ok (.aload_n 0, 1) ∧ 248 + 1 = 249 := ⟨by decide +kernel, rfl⟩
theorem dLW_law_249 : decode b_LW_law 249 = .ok (.iload_n 3, 1) ∧ 249 + 1 = 250 := ⟨by decide +kernel, rfl⟩
theorem dLW_law_250 : decode b_LW_law 250 = .ok (.iconst 1, 1) ∧ 250 + 1 = 251 := ⟨by decide +kernel, rfl⟩
theorem dLW_law_251 : decode b_LW_law 251 = .ok (.iadd, 1) ∧ 251 + 1 = 252 := ⟨by decide +kernel, rfl⟩
theorem dLW_law_252 : decode b_LW_law 252 = .ok (.iaload, 1) ∧ 252 + 1 = 253 := ⟨by decide +kernel, rfl⟩
theorem dLW_law_253 : decode b_LW_law 253 = .ok (.aload_n 0, 1) ∧ 253 + 1 = 254 := ⟨by decide +kernel, rfl⟩
theorem dLW_law_254 : decode b_LW_law 254 = .ok (.iload_n 3, 1) ∧ 254 + 1 = 255 := ⟨by decide +kernel, rfl⟩
theorem dLW_law_255 : decode b_LW_law 255 = .ok (.iconst 2, 1) ∧ 255 + 1 = 256 := ⟨by decide +kernel, rfl⟩
theorem dLW_law_256 : decode b_LW_law 256 = .ok (.iadd, 1) ∧ 256 + 1 = 257 := ⟨by decide +kernel, rfl⟩
theorem dLW_law_257 : decode b_LW_law 257 = .ok (.iaload, 1) ∧ 257 + 1 = 258 := ⟨by decide +kernel, rfl⟩
theorem dLW_law_258 : decode b_LW_law 258 = .ok (.invokevirtual 29, 3) ∧ 258 + 3 = 261 := ⟨by decide +kernel, rfl⟩
theorem dLW_law_261 : decode b_LW_law 261 = .ok (.aload_n 2, 1) ∧ 261 + 1 = 262 := ⟨by decide +kernel, rfl⟩
theorem dLW_law_262 : decode b_LW_law 262 = .ok (.aload_n 0, 1) ∧ 262 + 1 = 263 := ⟨by decide +kernel, rfl⟩
theorem dLW_law_263 : decode b_LW_law 263 = .ok (.iload_n 3, 1) ∧ 263 + 1 = 264 := ⟨by decide +kernel, rfl⟩
theorem dLW_law_264 : decode b_LW_law 264 = .ok (.iconst 1, 1) ∧ 264 + 1 = 265 := ⟨by decide +kernel, rfl⟩
theorem dLW_law_265 : decode b_LW_law 265 = .ok (.iadd, 1) ∧ 265 + 1 = 266 := ⟨by decide +kernel, rfl⟩
theorem dLW_law_266 : decode b_LW_law 266 = .ok (.iaload, 1) ∧ 266 + 1 = 267 := ⟨by decide +kernel, rfl⟩
theorem dLW_law_267 : decode b_LW_law 267 = .ok (.aload_n 0, 1) ∧ 267 + 1 = 268 := ⟨by decide +kernel, rfl⟩
theorem dLW_law_268 : decode b_LW_law 268 = .ok (.iload_n 3, 1) ∧ 268 + 1 = 269 := ⟨by decide +kernel, rfl⟩
theorem dLW_law_269 : decode b_LW_law 269 = .ok (.iconst 2, 1) ∧ 269 + 1 = 270 := ⟨by decide +kernel, rfl⟩
theorem dLW_law_270 : decode b_LW_law 270 = .ok (.iadd, 1) ∧ 270 + 1 = 271 := ⟨by decide +kernel, rfl⟩
theorem dLW_law_271 : decode b_LW_law 271 = .ok (.iaload, 1) ∧ 271 + 1 = 272 := ⟨by decide +kernel, rfl⟩
theorem dLW_law_272 : decode b_LW_law 272 = .ok (.invokevirtual 33, 3) ∧ 272 + 3 = 275 := ⟨by decide +kernel, rfl⟩
theorem dLW_law_275 : decode b_LW_law 275 = .ok (.if_icmp .eq (560), 3) ∧ 275 + 3 = 278 ∧ ((275 : Nat) : Int) + (560) = ((835 : Nat) : Int) := ⟨by decide +kernel, rfl, by decide⟩
theorem dLW_law_278 : decode b_LW_law 278 = .ok (.iconst 0, 1) ∧ 278 + 1 = 279 := ⟨by decide +kernel, rfl⟩
theorem dLW_law_280 : decode b_LW_law 280 = .ok (.aload_n 1, 1) ∧ 280 + 1 = 281 := ⟨by decide +kernel, rfl⟩
theorem dLW_law_281 : decode b_LW_law 281 = .ok (.aload_n 0, 1) ∧ 281 + 1 = 282 := ⟨by decide +kernel, rfl⟩
theorem dLW_law_282 : decode b_LW_law 282 = .ok (.iload_n 3, 1) ∧ 282 + 1 = 283 := ⟨by decide +kernel, rfl⟩
theorem dLW_law_283 : decode b_LW_law 283 = .ok (.iconst 1, 1) ∧ 283 + 1 = 284 := ⟨by decide +kernel, rfl⟩
theorem dLW_law_284 : decode b_LW_law 284 = .ok (.iadd, 1) ∧ 284 + 1 = 285 := ⟨by decide +kernel, rfl⟩
theorem dLW_law_285 : decode b_LW_law 285 = .ok (.iaload, 1) ∧ 285 + 1 = 286 := ⟨by decide +kernel, rfl⟩
theorem dLW_law_286 : decode b_LW_law 286 = .ok (.invokevirtual 34, 3) ∧ 286 + 3 = 289 := ⟨by decide +kernel, rfl⟩
theorem dLW_law_289 : decode b_LW_law 289 = .ok (.aload_n 2, 1) ∧ 289 + 1 = 290 := ⟨by decide +kernel, rfl⟩
theorem dLW_law_290 : decode b_LW_law 290 = .ok (.aload_n 0, 1) ∧ 290 + 1 = 291 := ⟨by decide +kernel, rfl⟩
theorem dLW_law_291 : decode b_LW_law 291 = .ok (.iload_n 3, 1) ∧ 291 + 1 = 292 := ⟨by decide +kernel, rfl⟩
theorem dLW_law_292 : decode b_LW_law 292 = .ok (.iconst 1, 1) ∧ 292 + 1 = 293 := ⟨by decide +kernel, rfl⟩
theorem dLW_law_293 : decode b_LW_law 293 = .ok (.iadd, 1) ∧ 293 + 1 = 294 := ⟨by decide +kernel, rfl⟩
theorem dLW_law_294 : decode b_LW_law 294 = .ok (.iaload, 1) ∧ 294 + 1 = 295 := ⟨by decide +kernel, rfl⟩
theorem dLW_law_295 : decode b_LW_law 295 = .ok (.invokevirtual 37, 3) ∧ 295 + 3 = 298 := ⟨by decide +kernel, rfl⟩
theorem dLW_law_298 : decode b_LW_law 298 = .ok (.if_icmp .eq (537), 3) ∧ 298 + 3 = 301 ∧ ((298 : Nat) : Int) + (537) = ((835 : Nat) : Int) := ⟨by decide +kernel, rfl, by decide⟩
theorem dLW_law_301 : decode b_LW_law 301 = .ok (.iconst 0, 1) ∧ 301 + 1 = 302 := ⟨by decide +kernel, rfl⟩
theorem dLW_law_303 : decode b_LW_law 303 = .ok (.aload_n 1, 1) ∧ 303 + 1 = 304 := ⟨by decide +kernel, rfl⟩
theorem dLW_law_304 : decode b_LW_law 304 = .ok (.aload_n 0, 1) ∧ 304 + 1 = 305 := ⟨by decide +kernel, rfl⟩
theorem dLW_law_305 : decode b_LW_law 305 = .ok (.iload_n 3, 1) ∧ 305 + 1 = 306 := ⟨by decide +kernel, rfl⟩
theorem dLW_law_306 : decode b_LW_law 306 = .ok (.iconst 1, 1) ∧ 306 + 1 = 307 := ⟨by decide +kernel, rfl⟩
theorem dLW_law_307 : decode b_LW_law 307 = .ok (.iadd, 1) ∧ 307 + 1 = 308 := ⟨by decide +kernel, rfl⟩
theorem dLW_law_308 : decode b_LW_law 308 = .ok (.iaload, 1) ∧ 308 + 1 = 309 := ⟨by decide +kernel, rfl⟩
theorem dLW_law_309 : decode b_LW_law 309 = .ok (.invokevirtual 38, 3) ∧ 309 + 3 = 312 := ⟨by decide +kernel, rfl⟩
theorem dLW_law_312 : decode b_LW_law 312 = .ok (.aload_n 2, 1) ∧ 312 + 1 = 313 := ⟨by decide +kernel, rfl⟩
theorem dLW_law_313 : decode b_LW_law 313 = .ok (.aload_n 0, 1) ∧ 313 + 1 = 314 := ⟨by decide +kernel, rfl⟩
theorem dLW_law_314 : decode b_LW_law 314 = .ok (.iload_n 3, 1) ∧ 314 + 1 = 315 := ⟨by decide +kernel, rfl⟩
theorem dLW_law_315 : decode b_LW_law 315 = .ok (.iconst 1, 1) ∧ 315 + 1 = 316 := ⟨by decide +kernel, rfl⟩
theorem dLW_law_316 : decode b_LW_law 316 = .ok (.iadd, 1) ∧ 316 + 1 = 317 := ⟨by decide +kernel, rfl⟩
theorem dLW_law_317 : decode b_LW_law 317 = .ok (.iaload, 1) ∧ 317 + 1 = 318 := ⟨by decide +kernel, rfl⟩
theorem dLW_law_318 : decode b_LW_law 318 = .ok (.invokevirtual 41, 3) ∧ 318 + 3 = 321 := ⟨by decide +kernel, rfl⟩
theorem dLW_law_321 : decode b_LW_law 321 = .ok (.if_icmp .eq (514), 3) ∧ 321 + 3 = 324 ∧ ((321 : Nat) : Int) + (514) = ((835 : Nat) : Int) := ⟨by decide +kernel, rfl, by decide⟩
theorem dLW_law_324 : decode b_LW_law 324 = .ok (.iconst 0, 1) ∧ 324 + 1 = 325 := ⟨by decide +kernel, rfl⟩
theorem dLW_law_326 : decode b_LW_law 326 = .ok (.aload_n 1, 1) ∧ 326 + 1 = 327 := ⟨by decide +kernel, rfl⟩
theorem dLW_law_327 : decode b_LW_law 327 = .ok (.aload_n 0, 1) ∧ 327 + 1 = 328 := ⟨by decide +kernel, rfl⟩
theorem dLW_law_328 : decode b_LW_law 328 = .ok (.iload_n 3, 1) ∧ 328 + 1 = 329 := ⟨by decide +kernel, rfl⟩
theorem dLW_law_329 : decode b_LW_law 329 = .ok (.iconst 1, 1) ∧ 329 + 1 = 330 := ⟨by decide +kernel, rfl⟩
theorem dLW_law_330 : decode b_LW_law 330 = .ok (.iadd, 1) ∧ 330 + 1 = 331 := ⟨by decide +kernel, rfl⟩
theorem dLW_law_331 : decode b_LW_law 331 = .ok (.iaload, 1) ∧ 331 + 1 = 332 := ⟨by decide +kernel, rfl⟩
theorem dLW_law_332 : decode b_LW_law 332 = .ok (.aload_n 0, 1) ∧ 332 + 1 = 333 := ⟨by decide +kernel, rfl⟩
theorem dLW_law_333 : decode b_LW_law 333 = .ok (.iload_n 3, 1) ∧ 333 + 1 = 334 := ⟨by decide +kernel, rfl⟩
theorem dLW_law_334 : decode b_LW_law 334 = .ok (.iconst 2, 1) ∧ 334 + 1 = 335 := ⟨by decide +kernel, rfl⟩
theorem dLW_law_335 : decode b_LW_law 335 = .ok (.iadd, 1) ∧ 335 + 1 = 336 := ⟨by decide +kernel, rfl⟩
theorem dLW_law_336 : decode b_LW_law 336 = .ok (.iaload, 1) ∧ 336 + 1 = 337 := ⟨by decide +kernel, rfl⟩
theorem dLW_law_337 : decode b_LW_law 337 = .ok (.aload_n 0, 1) ∧ 337 + 1 = 338 := ⟨by decide +kernel, rfl⟩
theorem dLW_law_338 : decode b_LW_law 338 = .ok (.iload_n 3, 1) ∧ 338 + 1 = 339 := ⟨by decide +kernel, rfl⟩
theorem dLW_law_339 : decode b_LW_law 339 = .ok (.iconst 3, 1) ∧ 339 + 1 = 340 := ⟨by decide +kernel, rfl⟩
theorem dLW_law_340 : decode b_LW_law 340 = .ok (.iadd, 1) ∧ 340 + 1 = 341 := ⟨by decide +kernel, rfl⟩
theorem dLW_law_341 : decode b_LW_law 341 = .ok (.iaload, 1) ∧ 341 + 1 = 342 := ⟨by decide +kernel, rfl⟩
theorem dLW_law_342 : decode b_LW_law 342 = .ok (.aload_n 0, 1) ∧ 342 + 1 = 343 := ⟨by decide +kernel, rfl⟩
theorem dLW_law_343 : decode b_LW_law 343 = .ok (.iload_n 3, 1) ∧ 343 + 1 = 344 := ⟨by decide +kernel, rfl⟩
theorem dLW_law_344 : decode b_LW_law 344 = .ok (.iconst 4, 1) ∧ 344 + 1 = 345 := ⟨by decide +kernel, rfl⟩
theorem dLW_law_345 : decode b_LW_law 345 = .ok (.iadd, 1) ∧ 345 + 1 = 346 := ⟨by decide +kernel, rfl⟩
theorem dLW_law_346 : decode b_LW_law 346 = .ok (.iaload, 1) ∧ 346 + 1 = 347 := ⟨by decide +kernel, rfl⟩
theorem dLW_law_347 : decode b_LW_law 347 = .ok (.aload_n 0, 1) ∧ 347 + 1 = 348 := ⟨by decide +kernel, rfl⟩
theorem dLW_law_348 : decode b_LW_law 348 = .ok (.iload_n 3, 1) ∧ 348 + 1 = 349 := ⟨by decide +kernel, rfl⟩
theorem dLW_law_349 : decode b_LW_law 349 = .ok (.iconst 5, 1) ∧ 349 + 1 = 350 := ⟨by decide +kernel, rfl⟩
theorem dLW_law_350 : decode b_LW_law 350 = .ok (.iadd, 1) ∧ 350 + 1 = 351 := ⟨by decide +kernel, rfl⟩
theorem dLW_law_351 : decode b_LW_law 351 = .ok (.iaload, 1) ∧ 351 + 1 = 352 := ⟨by decide +kernel, rfl⟩
theorem dLW_law_352 : decode b_LW_law 352 = .ok (.invokevirtual 42, 3) ∧ 352 + 3 = 355 := ⟨by decide +kernel, rfl⟩
theorem dLW_law_355 : decode b_LW_law 355 = .ok (.aload_n 2, 1) ∧ 355 + 1 = 356 := ⟨by decide +kernel, rfl⟩
theorem dLW_law_356 : decode b_LW_law 356 = .ok (.aload_n 0, 1) ∧ 356 + 1 = 357 := ⟨by decide +kernel, rfl⟩
theorem dLW_law_357 : decode b_LW_law 357 = .ok (.iload_n 3, 1) ∧ 357 + 1 = 358 := ⟨by decide +kernel, rfl⟩
theorem dLW_law_358 : decode b_LW_law 358 = .ok (.iconst 1, 1) ∧ 358 + 1 = 359 := ⟨by decide +kernel, rfl⟩
theorem dLW_law_359 : decode b_LW_law 359 = .ok (.iadd, 1) ∧ 359 + 1 = 360 := ⟨by decide +kernel, rfl⟩
theorem dLW_law_360 : decode b_LW_law 360 = .ok (.iaload, 1) ∧ 360 + 1 = 361 := ⟨by decide +kernel, rfl⟩
theorem dLW_law_361 : decode b_LW_law 361 = .ok (.aload_n 0, 1) ∧ 361 + 1 = 362 := ⟨by decide +kernel, rfl⟩
theorem dLW_law_362 : decode b_LW_law 362 = .ok (.iload_n 3, 1) ∧ 362 + 1 = 363 := ⟨by decide +kernel, rfl⟩
theorem dLW_law_363 : decode b_LW_law 363 = .ok (.iconst 2, 1) ∧ 363 + 1 = 364 := ⟨by decide +kernel, rfl⟩
theorem dLW_law_364 : decode b_LW_law 364 = .ok (.iadd, 1) ∧ 364 + 1 = 365 := ⟨by decide +kernel, rfl⟩
theorem dLW_law_365 : decode b_LW_law 365 = .ok (.iaload, 1) ∧ 365 + 1 = 366 := ⟨by decide +kernel, rfl⟩
theorem dLW_law_366 : decode b_LW_law 366 = .ok (.aload_n 0, 1) ∧ 366 + 1 = 367 := ⟨by decide +kernel, rfl⟩
theorem dLW_law_367 : decode b_LW_law 367 = .ok (.iload_n 3, 1) ∧ 367 + 1 = 368 := ⟨by decide +kernel, rfl⟩
theorem dLW_law_368 : decode b_LW_law 368 = .ok (.iconst 3, 1) ∧ 368 + 1 = 369 := ⟨by decide +kernel, rfl⟩
theorem dLW_law_369 : decode b_LW_law 369 = .ok (.iadd, 1) ∧ 369 + 1 = 370 := ⟨by decide +kernel, rfl⟩
theorem dLW_law_370 : decode b_LW_law 370 = .ok (.iaload, 1) ∧ 370 + 1 = 371 := ⟨by decide +kernel, rfl⟩
theorem dLW_law_371 : decode b_LW_law 371 = .ok (.aload_n 0, 1) ∧ 371 + 1 = 372 := ⟨by decide +kernel, rfl⟩
theorem dLW_law_372 : decode b_LW_law 372 = .ok (.iload_n 3, 1) ∧ 372 + 1 = 373 := ⟨by decide +kernel, rfl⟩
theorem dLW_law_373 : decode b_LW_law 373 = .ok (.iconst 4, 1) ∧ 373 + 1 = 374 := ⟨by decide +kernel, rfl⟩
theorem dLW_law_374 : decode b_LW_law 374 = .ok (.iadd, 1) ∧ 374 + 1 = 375 := ⟨by decide +kernel, rfl⟩
theorem dLW_law_375 : decode b_LW_law 375 = .ok (.iaload, 1) ∧ 375 + 1 = 376 := ⟨by decide +kernel, rfl⟩
theorem dLW_law_376 : decode b_LW_law 376 = .ok (.aload_n 0, 1) ∧ 376 + 1 = 377 := ⟨by decide +kernel, rfl⟩
theorem dLW_law_377 : decode b_LW_law 377 = .ok (.iload_n 3, 1) ∧ 377 + 1 = 378 := ⟨by decide +kernel, rfl⟩
theorem dLW_law_378 : decode b_LW_law 378 = .ok (.iconst 5, 1) ∧ 378 + 1 = 379 := ⟨by decide +kernel, rfl⟩
theorem dLW_law_379 : decode b_LW_law 379 = .ok (.iadd, 1) ∧ 379 + 1 = 380 := ⟨by decide +kernel, rfl⟩
theorem dLW_law_380 : decode b_LW_law 380 = .ok (.iaload, 1) ∧ 380 + 1 = 381 := ⟨by decide +kernel, rfl⟩
theorem dLW_law_381 : decode b_LW_law 381 = .ok (.invokevirtual 46, 3) ∧ 381 + 3 = 384 := ⟨by decide +kernel, rfl⟩
theorem dLW_law_384 : decode b_LW_law 384 = .ok (.if_icmp .eq (451), 3) ∧ 384 + 3 = 387 ∧ ((384 : Nat) : Int) + (451) = ((835 : Nat) : Int) := ⟨by decide +kernel, rfl, by decide⟩
theorem dLW_law_387 : decode b_LW_law 387 = .ok (.iconst 0, 1) ∧ 387 + 1 = 388 := ⟨by decide +kernel, rfl⟩
theorem dLW_law_389 : decode b_LW_law 389 = .ok (.aload_n 1, 1) ∧ 389 + 1 = 390 := ⟨by decide +kernel, rfl⟩
theorem dLW_law_390 : decode b_LW_law 390 = .ok (.aload_n 0, 1) ∧ 390 + 1 = 391 := ⟨by decide +kernel, rfl⟩
theorem dLW_law_391 : decode b_LW_law 391 = .ok (.iload_n 3, 1) ∧ 391 + 1 = 392 := ⟨by decide +kernel, rfl⟩
theorem dLW_law_392 : decode b_LW_law 392 = .ok (.iconst 1, 1) ∧ 392 + 1 = 393 := ⟨by decide +kernel, rfl⟩
theorem dLW_law_393 : decode b_LW_law 393 = .ok (.iadd, 1) ∧ 393 + 1 = 394 := ⟨by decide +kernel, rfl⟩
theorem dLW_law_394 : decode b_LW_law 394 = .ok (.iaload, 1) ∧ 394 + 1 = 395 := ⟨by decide +kernel, rfl⟩
theorem dLW_law_395 : decode b_LW_law 395 = .ok (.aload_n 0, 1) ∧ 395 + 1 = 396 := ⟨by decide +kernel, rfl⟩
theorem dLW_law_396 : decode b_LW_law 396 = .ok (.iload_n 3, 1) ∧ 396 + 1 = 397 := ⟨by decide +kernel, rfl⟩
theorem dLW_law_397 : decode b_LW_law 397 = .ok (.iconst 2, 1) ∧ 397 + 1 = 398 := ⟨by decide +kernel, rfl⟩
theorem dLW_law_398 : decode b_LW_law 398 = .ok (.iadd, 1) ∧ 398 + 1 = 399 := ⟨by decide +kernel, rfl⟩
theorem dLW_law_399 : decode b_LW_law 399 = .ok (.iaload, 1) ∧ 399 + 1 = 400 := ⟨by decide +kernel, rfl⟩
theorem dLW_law_400 : decode b_LW_law 400 = .ok (.aload_n 0, 1) ∧ 400 + 1 = 401 := ⟨by decide +kernel, rfl⟩
theorem dLW_law_401 : decode b_LW_law 401 = .ok (.iload_n 3, 1) ∧ 401 + 1 = 402 := ⟨by decide +kernel, rfl⟩
theorem dLW_law_402 : decode b_LW_law 402 = .ok (.iconst 3, 1) ∧ 402 + 1 = 403 := ⟨by decide +kernel, rfl⟩
theorem dLW_law_403 : decode b_LW_law 403 = .ok (.iadd, 1) ∧ 403 + 1 = 404 := ⟨by decide +kernel, rfl⟩
theorem dLW_law_404 : decode b_LW_law 404 = .ok (.iaload, 1) ∧ 404 + 1 = 405 := ⟨by decide +kernel, rfl⟩
theorem dLW_law_405 : decode b_LW_law 405 = .ok (.aload_n 0, 1) ∧ 405 + 1 = 406 := ⟨by decide +kernel, rfl⟩
theorem dLW_law_406 : decode b_LW_law 406 = .ok (.iload_n 3, 1) ∧ 406 + 1 = 407 := ⟨by decide +kernel, rfl⟩
theorem dLW_law_407 : decode b_LW_law 407 = .ok (.iconst 4, 1) ∧ 407 + 1 = 408 := ⟨by decide +kernel, rfl⟩
theorem dLW_law_408 : decode b_LW_law 408 = .ok (.iadd, 1) ∧ 408 + 1 = 409 := ⟨by decide +kernel, rfl⟩
theorem dLW_law_409 : decode b_LW_law 409 = .ok (.iaload, 1) ∧ 409 + 1 = 410 := ⟨by decide +kernel, rfl⟩
theorem dLW_law_410 : decode b_LW_law 410 = .ok (.aload_n 0, 1) ∧ 410 + 1 = 411 := ⟨by decide +kernel, rfl⟩
theorem dLW_law_411 : decode b_LW_law 411 = .ok (.iload_n 3, 1) ∧ 411 + 1 = 412 := ⟨by decide +kernel, rfl⟩
theorem dLW_law_412 : decode b_LW_law 412 = .ok (.iconst 5, 1) ∧ 412 + 1 = 413 := ⟨by decide +kernel, rfl⟩
theorem dLW_law_413 : decode b_LW_law 413 = .ok (.iadd, 1) ∧ 413 + 1 = 414 := ⟨by decide +kernel, rfl⟩
theorem dLW_law_414 : decode b_LW_law 414 = .ok (.iaload, 1) ∧ 414 + 1 = 415 := ⟨by decide +kernel, rfl⟩
theorem dLW_law_415 : decode b_LW_law 415 = .ok (.invokevirtual 47, 3) ∧ 415 + 3 = 418 := ⟨by decide +kernel, rfl⟩
theorem dLW_law_418 : decode b_LW_law 418 = .ok (.aload_n 2, 1) ∧ 418 + 1 = 419 := ⟨by decide +kernel, rfl⟩
theorem dLW_law_419 : decode b_LW_law 419 = .ok (.aload_n 0, 1) ∧ 419 + 1 = 420 := ⟨by decide +kernel, rfl⟩
theorem dLW_law_420 : decode b_LW_law 420 = .ok (.iload_n 3, 1) ∧ 420 + 1 = 421 := ⟨by decide +kernel, rfl⟩
theorem dLW_law_421 : decode b_LW_law 421 = .ok (.iconst 1, 1) ∧ 421 + 1 = 422 := ⟨by decide +kernel, rfl⟩
theorem dLW_law_422 : decode b_LW_law 422 = .ok (.iadd, 1) ∧ 422 + 1 = 423 := ⟨by decide +kernel, rfl⟩
theorem dLW_law_423 : decode b_LW_law 423 = .ok (.iaload, 1) ∧ 423 + 1 = 424 := ⟨by decide +kernel, rfl⟩
theorem dLW_law_424 : decode b_LW_law 424 = .ok (.aload_n 0, 1) ∧ 424 + 1 = 425 := ⟨by decide +kernel, rfl⟩
theorem dLW_law_425 : decode b_LW_law 425 = .ok (.iload_n 3, 1) ∧ 425 + 1 = 426 := ⟨by decide +kernel, rfl⟩
theorem dLW_law_426 : decode b_LW_law 426 = .ok (.iconst 2, 1) ∧ 426 + 1 = 427 := ⟨by decide +kernel, rfl⟩
theorem dLW_law_427 : decode b_LW_law 427 = .ok (.iadd, 1) ∧ 427 + 1 = 428 := ⟨by decide +kernel, rfl⟩
theorem dLW_law_428 : decode b_LW_law 428 = .ok (.iaload, 1) ∧ 428 + 1 = 429 := ⟨by decide +kernel, rfl⟩
theorem dLW_law_429 : decode b_LW_law 429 = .ok (.aload_n 0, 1) ∧ 429 + 1 = 430 := ⟨by decide +kernel, rfl⟩
theorem dLW_law_430 : decode b_LW_law 430 = .ok (.iload_n 3, 1) ∧ 430 + 1 = 431 := ⟨by decide +kernel, rfl⟩
theorem dLW_law_431 : decode b_LW_law 431 = .ok (.iconst 3, 1) ∧ 431 + 1 = 432 := ⟨by decide +kernel, rfl⟩
theorem dLW_law_432 : decode b_LW_law 432 = .ok (.iadd, 1) ∧ 432 + 1 = 433 := ⟨by decide +kernel, rfl⟩
theorem dLW_law_433 : decode b_LW_law 433 = .ok (.iaload, 1) ∧ 433 + 1 = 434 := ⟨by decide +kernel, rfl⟩
theorem dLW_law_434 : decode b_LW_law 434 = .ok (.aload_n 0, 1) ∧ 434 + 1 = 435 := ⟨by decide +kernel, rfl⟩
theorem dLW_law_435 : decode b_LW_law 435 = .ok (.iload_n 3, 1) ∧ 435 + 1 = 436 := ⟨by decide +kernel, rfl⟩
theorem dLW_law_436 : decode b_LW_law 436 = .ok (.iconst 4, 1) ∧ 436 + 1 = 437 := ⟨by decide +kernel, rfl⟩
theorem dLW_law_437 : decode b_LW_law 437 = .ok (.iadd, 1) ∧ 437 + 1 = 438 := ⟨by decide +kernel, rfl⟩
theorem dLW_law_438 : decode b_LW_law 438 = .ok (.iaload, 1) ∧ 438 + 1 = 439 := ⟨by decide +kernel, rfl⟩
theorem dLW_law_439 : decode b_LW_law 439 = .ok (.aload_n 0, 1) ∧ 439 + 1 = 440 := ⟨by decide +kernel, rfl⟩
theorem dLW_law_440 : decode b_LW_law 440 = .ok (.iload_n 3, 1) ∧ 440 + 1 = 441 := ⟨by decide +kernel, rfl⟩
theorem dLW_law_441 : decode b_LW_law 441 = .ok (.iconst 5, 1) ∧ 441 + 1 = 442 := ⟨by decide +kernel, rfl⟩
theorem dLW_law_442 : decode b_LW_law 442 = .ok (.iadd, 1) ∧ 442 + 1 = 443 := ⟨by decide +kernel, rfl⟩
theorem dLW_law_443 : decode b_LW_law 443 = .ok (.iaload, 1) ∧ 443 + 1 = 444 := ⟨by decide +kernel, rfl⟩
theorem dLW_law_444 : decode b_LW_law 444 = .ok (.invokevirtual 50, 3) ∧ 444 + 3 = 447 := ⟨by decide +kernel, rfl⟩
theorem dLW_law_447 : decode b_LW_law 447 = .ok (.if_icmp .eq (388), 3) ∧ 447 + 3 = 450 ∧ ((447 : Nat) : Int) + (388) = ((835 : Nat) : Int) := ⟨by decide +kernel, rfl, by decide⟩
theorem dLW_law_450 : decode b_LW_law 450 = .ok (.iconst 0, 1) ∧ 450 + 1 = 451 := ⟨by decide +kernel, rfl⟩
theorem dLW_law_452 : decode b_LW_law 452 = .ok (.aload_n 1, 1) ∧ 452 + 1 = 453 := ⟨by decide +kernel, rfl⟩
theorem dLW_law_453 : decode b_LW_law 453 = .ok (.invokevirtual 51, 3) ∧ 453 + 3 = 456 := ⟨by decide +kernel, rfl⟩
theorem dLW_law_456 : decode b_LW_law 456 = .ok (.aload_n 2, 1) ∧ 456 + 1 = 457 := ⟨by decide +kernel, rfl⟩
theorem dLW_law_457 : decode b_LW_law 457 = .ok (.invokevirtual 55, 3) ∧ 457 + 3 = 460 := ⟨by decide +kernel, rfl⟩
theorem dLW_law_460 : decode b_LW_law 460 = .ok (.if_icmp .eq (375), 3) ∧ 460 + 3 = 463 ∧ ((460 : Nat) : Int) + (375) = ((835 : Nat) : Int) := ⟨by decide +kernel, rfl, by decide⟩
theorem dLW_law_463 : decode b_LW_law 463 = .ok (.iconst 0, 1) ∧ 463 + 1 = 464 := ⟨by decide +kernel, rfl⟩
theorem dLW_law_465 : decode b_LW_law 465 = .ok (.aload_n 1, 1) ∧ 465 + 1 = 466 := ⟨by decide +kernel, rfl⟩
theorem dLW_law_466 : decode b_LW_law 466 = .ok (.invokevirtual 56, 3) ∧ 466 + 3 = 469 := ⟨by decide +kernel, rfl⟩
theorem dLW_law_469 : decode b_LW_law 469 = .ok (.aload_n 2, 1) ∧ 469 + 1 = 470 := ⟨by decide +kernel, rfl⟩
theorem dLW_law_470 : decode b_LW_law 470 = .ok (.invokevirtual 59, 3) ∧ 470 + 3 = 473 := ⟨by decide +kernel, rfl⟩
theorem dLW_law_473 : decode b_LW_law 473 = .ok (.if_icmp .eq (362), 3) ∧ 473 + 3 = 476 ∧ ((473 : Nat) : Int) + (362) = ((835 : Nat) : Int) := ⟨by decide +kernel, rfl, by decide⟩
theorem dLW_law_476 : decode b_LW_law 476 = .ok (.iconst 0, 1) ∧ 476 + 1 = 477 := ⟨by decide +kernel, rfl⟩
theorem dLW_law_478 : decode b_LW_law 478 = .ok (.aload_n 1, 1) ∧ 478 + 1 = 479 := ⟨by decide +kernel, rfl⟩
theorem dLW_law_479 : decode b_LW_law 479 = .ok (.aload_n 0, 1) ∧ 479 + 1 = 480 := ⟨by decide +kernel, rfl⟩
theorem dLW_law_480 : decode b_LW_law 480 = .ok (.iload_n 3, 1) ∧ 480 + 1 = 481 := ⟨by decide +kernel, rfl⟩
theorem dLW_law_481 : decode b_LW_law 481 = .ok (.iconst 1, 1) ∧ 481 + 1 = 482 := ⟨by decide +kernel, rfl⟩
theorem dLW_law_482 : decode b_LW_law 482 = .ok (.iadd, 1) ∧ 482 + 1 = 483 := ⟨by decide +kernel, rfl⟩
theorem dLW_law_483 : decode b_LW_law 483 = .ok (.iaload, 1) ∧ 483 + 1 = 484 := ⟨by decide +kernel, rfl⟩
theorem dLW_law_484 : decode b_LW_law 484 = .ok (.invokevirtual 60, 3) ∧ 484 + 3 = 487 := ⟨by decide +kernel, rfl⟩
theorem dLW_law_487 : decode b_LW_law 487 = .ok (.aload_n 2, 1) ∧ 487 + 1 = 488 := ⟨by decide +kernel, rfl⟩
theorem dLW_law_488 : decode b_LW_law 488 = .ok (.aload_n 0, 1) ∧ 488 + 1 = 489 := ⟨by decide +kernel, rfl⟩
theorem dLW_law_489 : decode b_LW_law 489 = .ok (.iload_n 3, 1) ∧ 489 + 1 = 490 := ⟨by decide +kernel, rfl⟩
theorem dLW_law_490 : decode b_LW_law 490 = .ok (.iconst 1, 1) ∧ 490 + 1 = 491 := ⟨by decide +kernel, rfl⟩
theorem dLW_law_491 : decode b_LW_law 491 = .ok (.iadd, 1) ∧ 491 + 1 = 492 := ⟨by decide +kernel, rfl⟩
theorem dLW_law_492 : decode b_LW_law 492 = .ok (.iaload, 1) ∧ 492 + 1 = 493 := ⟨by decide +kernel, rfl⟩
theorem dLW_law_493 : decode b_LW_law 493 = .ok (.invokevirtual 64, 3) ∧ 493 + 3 = 496 := ⟨by decide +kernel, rfl⟩
theorem dLW_law_496 : decode b_LW_law 496 = .ok (.if_icmp .eq (339), 3) ∧ 496 + 3 = 499 ∧ ((496 : Nat) : Int) + (339) = ((835 : Nat) : Int) := ⟨by decide +kernel, rfl, by decide⟩
theorem dLW_law_499 : decode b_LW_law 499 = .ok (.iconst 0, 1) ∧ 499 + 1 = 500 := ⟨by decide +kernel, rfl⟩
theorem dLW_law_501 : decode b_LW_law 501 = .ok (.aload_n 1, 1) ∧ 501 + 1 = 502 := ⟨by decide +kernel, rfl⟩
theorem dLW_law_502 : decode b_LW_law 502 = .ok (.aload_n 0, 1) ∧ 502 + 1 = 503 := ⟨by decide +kernel, rfl⟩
theorem dLW_law_503 : decode b_LW_law 503 = .ok (.iload_n 3, 1) ∧ 503 + 1 = 504 := ⟨by decide +kernel, rfl⟩
theorem dLW_law_504 : decode b_LW_law 504 = .ok (.iconst 1, 1) ∧ 504 + 1 = 505 := ⟨by decide +kernel, rfl⟩
theorem dLW_law_505 : decode b_LW_law 505 = .ok (.iadd, 1) ∧ 505 + 1 = 506 := ⟨by decide +kernel, rfl⟩
theorem dLW_law_506 : decode b_LW_law 506 = .ok (.iaload, 1) ∧ 506 + 1 = 507 := ⟨by decide +kernel, rfl⟩
theorem dLW_law_507 : decode b_LW_law 507 = .ok (.aload_n 0, 1) ∧ 507 + 1 = 508 := ⟨by decide +kernel, rfl⟩
theorem dLW_law_508 : decode b_LW_law 508 = .ok (.iload_n 3, 1) ∧ 508 + 1 = 509 := ⟨by decide +kernel, rfl⟩
theorem dLW_law_509 : decode b_LW_law 509 = .ok (.iconst 2, 1) ∧ 509 + 1 = 510 := ⟨by decide +kernel, rfl⟩
theorem dLW_law_510 : decode b_LW_law 510 = .ok (.iadd, 1) ∧ 510 + 1 = 511 := ⟨by decide +kernel, rfl⟩
theorem dLW_law_511 : decode b_LW_law 511 = .ok (.iaload, 1) ∧ 511 + 1 = 512 := ⟨by decide +kernel, rfl⟩
theorem dLW_law_512 : decode b_LW_law 512 = .ok (.i2l, 1) ∧ 512 + 1 = 513 := ⟨by decide +kernel, rfl⟩
theorem dLW_law_513 : decode b_LW_law 513 = .ok (.bipush (32), 2) ∧ 513 + 2 = 515 := ⟨by decide +kernel, rfl⟩
theorem dLW_law_515 : decode b_LW_law 515 = .ok (.lshl, 1) ∧ 515 + 1 = 516 := ⟨by decide +kernel, rfl⟩
theorem dLW_law_516 : decode b_LW_law 516 = .ok (.aload_n 0, 1) ∧ 516 + 1 = 517 := ⟨by decide +kernel, rfl⟩
theorem dLW_law_517 : decode b_LW_law 517 = .ok (.iload_n 3, 1) ∧ 517 + 1 = 518 := ⟨by decide +kernel, rfl⟩
theorem dLW_law_518 : decode b_LW_law 518 = .ok (.iconst 3, 1) ∧ 518 + 1 = 519 := ⟨by decide +kernel, rfl⟩
theorem dLW_law_519 : decode b_LW_law 519 = .ok (.iadd, 1) ∧ 519 + 1 = 520 := ⟨by decide +kernel, rfl⟩
theorem dLW_law_520 : decode b_LW_law 520 = .ok (.iaload, 1) ∧ 520 + 1 = 521 := ⟨by decide +kernel, rfl⟩
theorem dLW_law_521 : decode b_LW_law 521 = .ok (.i2l, 1) ∧ 521 + 1 = 522 := ⟨by decide +kernel, rfl⟩
theorem dLW_law_522 : decode b_LW_law 522 = .ok (.ldc2_w 17, 3) ∧ 522 + 3 = 525 := ⟨by decide +kernel, rfl⟩
theorem dLW_law_525 : decode b_LW_law 525 = .ok (.land, 1) ∧ 525 + 1 = 526 := ⟨by decide +kernel, rfl⟩
theorem dLW_law_526 : decode b_LW_law 526 = .ok (.lor, 1) ∧ 526 + 1 = 527 := ⟨by decide +kernel, rfl⟩
theorem dLW_law_527 : decode b_LW_law 527 = .ok (.invokevirtual 65, 3) ∧ 527 + 3 = 530 := ⟨by decide +kernel, rfl⟩
theorem dLW_law_530 : decode b_LW_law 530 = .ok (.aload_n 2, 1) ∧ 530 + 1 = 531 := ⟨by decide +kernel, rfl⟩
theorem dLW_law_531 : decode b_LW_law 531 = .ok (.aload_n 0, 1) ∧ 531 + 1 = 532 := ⟨by decide +kernel, rfl⟩
theorem dLW_law_532 : decode b_LW_law 532 = .ok (.iload_n 3, 1) ∧ 532 + 1 = 533 := ⟨by decide +kernel, rfl⟩
theorem dLW_law_533 : decode b_LW_law 533 = .ok (.iconst 1, 1) ∧ 533 + 1 = 534 := ⟨by decide +kernel, rfl⟩
theorem dLW_law_534 : decode b_LW_law 534 = .ok (.iadd, 1) ∧ 534 + 1 = 535 := ⟨by decide +kernel, rfl⟩
theorem dLW_law_535 : decode b_LW_law 535 = .ok (.iaload, 1) ∧ 535 + 1 = 536 := ⟨by decide +kernel, rfl⟩
theorem dLW_law_536 : decode b_LW_law 536 = .ok (.aload_n 0, 1) ∧ 536 + 1 = 537 := ⟨by decide +kernel, rfl⟩
theorem dLW_law_537 : decode b_LW_law 537 = .ok (.iload_n 3, 1) ∧ 537 + 1 = 538 := ⟨by decide +kernel, rfl⟩
theorem dLW_law_538 : decode b_LW_law 538 = .ok (.iconst 2, 1) ∧ 538 + 1 = 539 := ⟨by decide +kernel, rfl⟩
theorem dLW_law_539 : decode b_LW_law 539 = .ok (.iadd, 1) ∧ 539 + 1 = 540 := ⟨by decide +kernel, rfl⟩
theorem dLW_law_540 : decode b_LW_law 540 = .ok (.iaload, 1) ∧ 540 + 1 = 541 := ⟨by decide +kernel, rfl⟩
theorem dLW_law_541 : decode b_LW_law 541 = .ok (.i2l, 1) ∧ 541 + 1 = 542 := ⟨by decide +kernel, rfl⟩
theorem dLW_law_542 : decode b_LW_law 542 = .ok (.bipush (32), 2) ∧ 542 + 2 = 544 := ⟨by decide +kernel, rfl⟩
theorem dLW_law_544 : decode b_LW_law 544 = .ok (.lshl, 1) ∧ 544 + 1 = 545 := ⟨by decide +kernel, rfl⟩
theorem dLW_law_545 : decode b_LW_law 545 = .ok (.aload_n 0, 1) ∧ 545 + 1 = 546 := ⟨by decide +kernel, rfl⟩
theorem dLW_law_546 : decode b_LW_law 546 = .ok (.iload_n 3, 1) ∧ 546 + 1 = 547 := ⟨by decide +kernel, rfl⟩
theorem dLW_law_547 : decode b_LW_law 547 = .ok (.iconst 3, 1) ∧ 547 + 1 = 548 := ⟨by decide +kernel, rfl⟩
theorem dLW_law_548 : decode b_LW_law 548 = .ok (.iadd, 1) ∧ 548 + 1 = 549 := ⟨by decide +kernel, rfl⟩
theorem dLW_law_549 : decode b_LW_law 549 = .ok (.iaload, 1) ∧ 549 + 1 = 550 := ⟨by decide +kernel, rfl⟩
theorem dLW_law_550 : decode b_LW_law 550 = .ok (.i2l, 1) ∧ 550 + 1 = 551 := ⟨by decide +kernel, rfl⟩
theorem dLW_law_551 : decode b_LW_law 551 = .ok (.ldc2_w 17, 3) ∧ 551 + 3 = 554 := ⟨by decide +kernel, rfl⟩
theorem dLW_law_554 : decode b_LW_law 554 = .ok (.land, 1) ∧ 554 + 1 = 555 := ⟨by decide +kernel, rfl⟩
theorem dLW_law_555 : decode b_LW_law 555 = .ok (.lor, 1) ∧ 555 + 1 = 556 := ⟨by decide +kernel, rfl⟩
theorem dLW_law_556 : decode b_LW_law 556 = .ok (.invokevirtual 69, 3) ∧ 556 + 3 = 559 := ⟨by decide +kernel, rfl⟩
theorem dLW_law_559 : decode b_LW_law 559 = .ok (.if_icmp .eq (276), 3) ∧ 559 + 3 = 562 ∧ ((559 : Nat) : Int) + (276) = ((835 : Nat) : Int) := ⟨by decide +kernel, rfl, by decide⟩
theorem dLW_law_562 : decode b_LW_law 562 = .ok (.iconst 0, 1) ∧ 562 + 1 = 563 := ⟨by decide +kernel, rfl⟩
theorem dLW_law_564 : decode b_LW_law 564 = .ok (.aload_n 1, 1) ∧ 564 + 1 = 565 := ⟨by decide +kernel, rfl⟩
theorem dLW_law_565 : decode b_LW_law 565 = .ok (.aload_n 0, 1) ∧ 565 + 1 = 566 := ⟨by decide +kernel, rfl⟩
theorem dLW_law_566 : decode b_LW_law 566 = .ok (.iload_n 3, 1) ∧ 566 + 1 = 567 := ⟨by decide +kernel, rfl⟩
theorem dLW_law_567 : decode b_LW_law 567 = .ok (.iconst 1, 1) ∧ 567 + 1 = 568 := ⟨by decide +kernel, rfl⟩
theorem dLW_law_568 : decode b_LW_law 568 = .ok (.iadd, 1) ∧ 568 + 1 = 569 := ⟨by decide +kernel, rfl⟩
theorem dLW_law_569 : decode b_LW_law 569 = .ok (.iaload, 1) ∧ 569 + 1 = 570 := ⟨by decide +kernel, rfl⟩
theorem dLW_law_570 : decode b_LW_law 570 = .ok (.invokevirtual 70, 3) ∧ 570 + 3 = 573 := ⟨by decide +kernel, rfl⟩
theorem dLW_law_573 : decode b_LW_law 573 = .ok (.aload_n 2, 1) ∧ 573 + 1 = 574 := ⟨by decide +kernel, rfl⟩
theorem dLW_law_574 : decode b_LW_law 574 = .ok (.aload_n 0, 1) ∧ 574 + 1 = 575 := ⟨by decide +kernel, rfl⟩
theorem dLW_law_575 : decode b_LW_law 575 = .ok (.iload_n 3, 1) ∧ 575 + 1 = 576 := ⟨by decide +kernel, rfl⟩
theorem dLW_law_576 : decode b_LW_law 576 = .ok (.iconst 1, 1) ∧ 576 + 1 = 577 := ⟨by decide +kernel, rfl⟩
theorem dLW_law_577 : decode b_LW_law 577 = .ok (.iadd, 1) ∧ 577 + 1 = 578 := ⟨by decide +kernel, rfl⟩
theorem dLW_law_578 : decode b_LW_law 578 = .ok (.iaload, 1) ∧ 578 + 1 = 579 := ⟨by decide +kernel, rfl⟩
theorem dLW_law_579 : decode b_LW_law 579 = .ok (.invokevirtual 73, 3) ∧ 579 + 3 = 582 := ⟨by decide +kernel, rfl⟩
theorem dLW_law_582 : decode b_LW_law 582 = .ok (.if_icmp .eq (253), 3) ∧ 582 + 3 = 585 ∧ ((582 : Nat) : Int) + (253) = ((835 : Nat) : Int) := ⟨by decide +kernel, rfl, by decide⟩
theorem dLW_law_585 : decode b_LW_law 585 = .ok (.iconst 0, 1) ∧ 585 + 1 = 586 := ⟨by decide +kernel, rfl⟩
theorem dLW_law_587 : decode b_LW_law 587 = .ok (.aload_n 1, 1) ∧ 587 + 1 = 588 := ⟨by decide +kernel, rfl⟩
theorem dLW_law_588 : decode b_LW_law 588 = .ok (.aload_n 0, 1) ∧ 588 + 1 = 589 := ⟨by decide +kernel, rfl⟩
theorem dLW_law_589 : decode b_LW_law 589 = .ok (.iload_n 3, 1) ∧ 589 + 1 = 590 := ⟨by decide +kernel, rfl⟩
theorem dLW_law_590 : decode b_LW_law 590 = .ok (.iconst 1, 1) ∧ 590 + 1 = 591 := ⟨by decide +kernel, rfl⟩
theorem dLW_law_591 : decode b_LW_law 591 = .ok (.iadd, 1) ∧ 591 + 1 = 592 := ⟨by decide +kernel, rfl⟩
theorem dLW_law_592 : decode b_LW_law 592 = .ok (.iaload, 1) ∧ 592 + 1 = 593 := ⟨by decide +kernel, rfl⟩
theorem dLW_law_593 : decode b_LW_law 593 = .ok (.aload_n 0, 1) ∧ 593 + 1 = 594 := ⟨by decide +kernel, rfl⟩
theorem dLW_law_594 : decode b_LW_law 594 = .ok (.iload_n 3, 1) ∧ 594 + 1 = 595 := ⟨by decide +kernel, rfl⟩
theorem dLW_law_595 : decode b_LW_law 595 = .ok (.iconst 2, 1) ∧ 595 + 1 = 596 := ⟨by decide +kernel, rfl⟩
theorem dLW_law_596 : decode b_LW_law 596 = .ok (.iadd, 1) ∧ 596 + 1 = 597 := ⟨by decide +kernel, rfl⟩
theorem dLW_law_597 : decode b_LW_law 597 = .ok (.iaload, 1) ∧ 597 + 1 = 598 := ⟨by decide +kernel, rfl⟩
theorem dLW_law_598 : decode b_LW_law 598 = .ok (.invokevirtual 74, 3) ∧ 598 + 3 = 601 := ⟨by decide +kernel, rfl⟩
theorem dLW_law_601 : decode b_LW_law 601 = .ok (.aload_n 2, 1) ∧ 601 + 1 = 602 := ⟨by decide +kernel, rfl⟩
theorem dLW_law_602 : decode b_LW_law 602 = .ok (.aload_n 0, 1) ∧ 602 + 1 = 603 := ⟨by decide +kernel, rfl⟩
theorem dLW_law_603 : decode b_LW_law 603 = .ok (.iload_n 3, 1) ∧ 603 + 1 = 604 := ⟨by decide +kernel, rfl⟩
theorem dLW_law_604 : decode b_LW_law 604 = .ok (.iconst 1, 1) ∧ 604 + 1 = 605 := ⟨by decide +kernel, rfl⟩
theorem dLW_law_605 : decode b_LW_law 605 = .ok (.iadd, 1) ∧ 605 + 1 = 606 := ⟨by decide +kernel, rfl⟩
theorem dLW_law_606 : decode b_LW_law 606 = .ok (.iaload, 1) ∧ 606 + 1 = 607 := ⟨by decide +kernel, rfl⟩
theorem dLW_law_607 : decode b_LW_law 607 = .ok (.aload_n 0, 1) ∧ 607 + 1 = 608 := ⟨by decide +kernel, rfl⟩
theorem dLW_law_608 : decode b_LW_law 608 = .ok (.iload_n 3, 1) ∧ 608 + 1 = 609 := ⟨by decide +kernel, rfl⟩
theorem dLW_law_609 : decode b_LW_law 609 = .ok (.iconst 2, 1) ∧ 609 + 1 = 610 := ⟨by decide +kernel, rfl⟩
theorem dLW_law_610 : decode b_LW_law 610 = .ok (.iadd, 1) ∧ 610 + 1 = 611 := ⟨by decide +kernel, rfl⟩
theorem dLW_law_611 : decode b_LW_law 611 = .ok (.iaload, 1) ∧ 611 + 1 = 612 := ⟨by decide +kernel, rfl⟩
theorem dLW_law_612 : decode b_LW_law 612 = .ok (.invokevirtual 78, 3) ∧ 612 + 3 = 615 := ⟨by decide +kernel, rfl⟩
theorem dLW_law_615 : decode b_LW_law 615 = .ok (.if_icmp .eq (220), 3) ∧ 615 + 3 = 618 ∧ ((615 : Nat) : Int) + (220) = ((835 : Nat) : Int) := ⟨by decide +kernel, rfl, by decide⟩
theorem dLW_law_618 : decode b_LW_law 618 = .ok (.iconst 0, 1) ∧ 618 + 1 = 619 := ⟨by decide +kernel, rfl⟩
theorem dLW_law_620 : decode b_LW_law 620 = .ok (.aload_n 1, 1) ∧ 620 + 1 = 621 := ⟨by decide +kernel, rfl⟩
theorem dLW_law_621 : decode b_LW_law 621 = .ok (.invokevirtual 79, 3) ∧ 621 + 3 = 624 := ⟨by decide +kernel, rfl⟩
theorem dLW_law_624 : decode b_LW_law 624 = .ok (.aload_n 2, 1) ∧ 624 + 1 = 625 := ⟨by decide +kernel, rfl⟩
theorem dLW_law_625 : decode b_LW_law 625 = .ok (.invokevirtual 82, 3) ∧ 625 + 3 = 628 := ⟨by decide +kernel, rfl⟩
theorem dLW_law_628 : decode b_LW_law 628 = .ok (.if_icmp .eq (207), 3) ∧ 628 + 3 = 631 ∧ ((628 : Nat) : Int) + (207) = ((835 : Nat) : Int) := ⟨by decide +kernel, rfl, by decide⟩
theorem dLW_law_631 : decode b_LW_law 631 = .ok (.iconst 0, 1) ∧ 631 + 1 = 632 := ⟨by decide +kernel, rfl⟩
theorem dLW_law_633 : decode b_LW_law 633 = .ok (.aload_n 1, 1) ∧ 633 + 1 = 634 := ⟨by decide +kernel, rfl⟩
theorem dLW_law_634 : decode b_LW_law 634 = .ok (.invokevirtual 83, 3) ∧ 634 + 3 = 637 := ⟨by decide +kernel, rfl⟩
theorem dLW_law_637 : decode b_LW_law 637 = .ok (.aload_n 2, 1) ∧ 637 + 1 = 638 := ⟨by decide +kernel, rfl⟩
theorem dLW_law_638 : decode b_LW_law 638 = .ok (.invokevirtual 86, 3) ∧ 638 + 3 = 641 := ⟨by decide +kernel, rfl⟩
theorem dLW_law_641 : decode b_LW_law 641 = .ok (.if_icmp .eq (194), 3) ∧ 641 + 3 = 644 ∧ ((641 : Nat) : Int) + (194) = ((835 : Nat) : Int) := ⟨by decide +kernel, rfl, by decide⟩
theorem dLW_law_644 : decode b_LW_law 644 = .ok (.iconst 0, 1) ∧ 644 + 1 = 645 := ⟨by decide +kernel, rfl⟩
theorem dLW_law_646 : decode b_LW_law 646 = .ok (.aload_n 1, 1) ∧ 646 + 1 = 647 := ⟨by decide +kernel, rfl⟩
theorem dLW_law_647 : decode b_LW_law 647 = .ok (.invokevirtual 87, 3) ∧ 647 + 3 = 650 := ⟨by decide +kernel, rfl⟩
theorem dLW_law_650 : decode b_LW_law 650 = .ok (.aload_n 2, 1) ∧ 650 + 1 = 651 := ⟨by decide +kernel, rfl⟩
theorem dLW_law_651 : decode b_LW_law 651 = .ok (.invokevirtual 90, 3) ∧ 651 + 3 = 654 := ⟨by decide +kernel, rfl⟩
theorem dLW_law_654 : decode b_LW_law 654 = .ok (.goto (181), 3) ∧ 654 + 3 = 657 ∧ ((654 : Nat) : Int) + (181) = ((835 : Nat) : Int) := ⟨by decide +kernel, rfl, by decide⟩
theorem dLW_law_657 : decode b_LW_law 657 = .ok (.aload_n 1, 1) ∧ 657 + 1 = 658 := ⟨by decide +kernel, rfl⟩
theorem dLW_law_658 : decode b_LW_law 658 = .ok (.aload_n 0, 1) ∧ 658 + 1 = 659 := ⟨by decide +kernel, rfl⟩
theorem dLW_law_659 : decode b_LW_law 659 = .ok (.iload_n 3, 1) ∧ 659 + 1 = 660 := ⟨by decide +kernel, rfl⟩
theorem dLW_law_660 : decode b_LW_law 660 = .ok (.iconst 1, 1) ∧ 660 + 1 = 661 := ⟨by decide +kernel, rfl⟩
theorem dLW_law_661 : decode b_LW_law 661 = .ok (.iadd, 1) ∧ 661 + 1 = 662 := ⟨by decide +kernel, rfl⟩
theorem dLW_law_662 : decode b_LW_law 662 = .ok (.iaload, 1) ∧ 662 + 1 = 663 := ⟨by decide +kernel, rfl⟩
theorem dLW_law_663 : decode b_LW_law 663 = .ok (.aload_n 0, 1) ∧ 663 + 1 = 664 := ⟨by decide +kernel, rfl⟩
theorem dLW_law_664 : decode b_LW_law 664 = .ok (.iload_n 3, 1) ∧ 664 + 1 = 665 := ⟨by decide +kernel, rfl⟩
theorem dLW_law_665 : decode b_LW_law 665 = .ok (.iconst 2, 1) ∧ 665 + 1 = 666 := ⟨by decide +kernel, rfl⟩
theorem dLW_law_666 : decode b_LW_law 666 = .ok (.iadd, 1) ∧ 666 + 1 = 667 := ⟨by decide +kernel, rfl⟩
theorem dLW_law_667 : decode b_LW_law 667 = .ok (.iaload, 1) ∧ 667 + 1 = 668 := ⟨by decide +kernel, rfl⟩
theorem dLW_law_668 : decode b_LW_law 668 = .ok (.invokevirtual 91, 3) ∧ 668 + 3 = 671 := ⟨by decide +kernel, rfl⟩
theorem dLW_law_671 : decode b_LW_law 671 = .ok (.aload_n 2, 1) ∧ 671 + 1 = 672 := ⟨by decide +kernel, rfl⟩
theorem dLW_law_672 : decode b_LW_law 672 = .ok (.aload_n 0, 1) ∧ 672 + 1 = 673 := ⟨by decide +kernel, rfl⟩
theorem dLW_law_673 : decode b_LW_law 673 = .ok (.iload_n 3, 1) ∧ 673 + 1 = 674 := ⟨by decide +kernel, rfl⟩
theorem dLW_law_674 : decode b_LW_law 674 = .ok (.iconst 1, 1) ∧ 674 + 1 = 675 := ⟨by decide +kernel, rfl⟩
theorem dLW_law_675 : decode b_LW_law 675 = .ok (.iadd, 1) ∧ 675 + 1 = 676 := ⟨by decide +kernel, rfl⟩
theorem dLW_law_676 : decode b_LW_law 676 = .ok (.iaload, 1) ∧ 676 + 1 = 677 := ⟨by decide +kernel, rfl⟩
theorem dLW_law_677 : decode b_LW_law 677 = .ok (.aload_n 0, 1) ∧ 677 + 1 = 678 := ⟨by decide +kernel, rfl⟩
theorem dLW_law_678 : decode b_LW_law 678 = .ok (.iload_n 3, 1) ∧ 678 + 1 = 679 := ⟨by decide +kernel, rfl⟩
theorem dLW_law_679 : decode b_LW_law 679 = .ok (.iconst 2, 1) ∧ 679 + 1 = 680 := ⟨by decide +kernel, rfl⟩
theorem dLW_law_680 : decode b_LW_law 680 = .ok (.iadd, 1) ∧ 680 + 1 = 681 := ⟨by decide +kernel, rfl⟩
theorem dLW_law_681 : decode b_LW_law 681 = .ok (.iaload, 1) ∧ 681 + 1 = 682 := ⟨by decide +kernel, rfl⟩
theorem dLW_law_682 : decode b_LW_law 682 = .ok (.invokevirtual 94, 3) ∧ 682 + 3 = 685 := ⟨by decide +kernel, rfl⟩
theorem dLW_law_685 : decode b_LW_law 685 = .ok (.if_icmp .eq (150), 3) ∧ 685 + 3 = 688 ∧ ((685 : Nat) : Int) + (150) = ((835 : Nat) : Int) := ⟨by decide +kernel, rfl, by decide⟩
theorem dLW_law_688 : decode b_LW_law 688 = .ok (.iconst 0, 1) ∧ 688 + 1 = 689 := ⟨by decide +kernel, rfl⟩
theorem dLW_law_690 : decode b_LW_law 690 = .ok (.aload_n 1, 1) ∧ 690 + 1 = 691 := ⟨by decide +kernel, rfl⟩
theorem dLW_law_691 : decode b_LW_law 691 = .ok (.aload_n 0, 1) ∧ 691 + 1 = 692 := ⟨by decide +kernel, rfl⟩
theorem dLW_law_692 : decode b_LW_law 692 = .ok (.iload_n 3, 1) ∧ 692 + 1 = 693 := ⟨by decide +kernel, rfl⟩
theorem dLW_law_693 : decode b_LW_law 693 = .ok (.iconst 1, 1) ∧ 693 + 1 = 694 := ⟨by decide +kernel, rfl⟩
theorem dLW_law_694 : decode b_LW_law 694 = .ok (.iadd, 1) ∧ 694 + 1 = 695 := ⟨by decide +kernel, rfl⟩
theorem dLW_law_695 : decode b_LW_law 695 = .ok (.iaload, 1) ∧ 695 + 1 = 696 := ⟨by decide +kernel, rfl⟩
theorem dLW_law_696 : decode b_LW_law 696 = .ok (.aload_n 0, 1) ∧ 696 + 1 = 697 := ⟨by decide +kernel, rfl⟩
theorem dLW_law_697 : decode b_LW_law 697 = .ok (.iload_n 3, 1) ∧ 697 + 1 = 698 := ⟨by decide +kernel, rfl⟩
theorem dLW_law_698 : decode b_LW_law 698 = .ok (.iconst 2, 1) ∧ 698 + 1 = 699 := ⟨by decide +kernel, rfl⟩
theorem dLW_law_699 : decode b_LW_law 699 = .ok (.iadd, 1) ∧ 699 + 1 = 700 := ⟨by decide +kernel, rfl⟩
theorem dLW_law_700 : decode b_LW_law 700 = .ok (.iaload, 1) ∧ 700 + 1 = 701 := ⟨by decide +kernel, rfl⟩
theorem dLW_law_701 : decode b_LW_law 701 = .ok (.invokevirtual 95, 3) ∧ 701 + 3 = 704 := ⟨by decide +kernel, rfl⟩
theorem dLW_law_704 : decode b_LW_law 704 = .ok (.aload_n 2, 1) ∧ 704 + 1 = 705 := ⟨by decide +kernel, rfl⟩
theorem dLW_law_705 : decode b_LW_law 705 = .ok (.aload_n 0, 1) ∧ 705 + 1 = 706 := ⟨by decide +kernel, rfl⟩
theorem dLW_law_706 : decode b_LW_law 706 = .ok (.iload_n 3, 1) ∧ 706 + 1 = 707 := ⟨by decide +kernel, rfl⟩
theorem dLW_law_707 : decode b_LW_law 707 = .ok (.iconst 1, 1) ∧ 707 + 1 = 708 := ⟨by decide +kernel, rfl⟩
theorem dLW_law_708 : decode b_LW_law 708 = .ok (.iadd, 1) ∧ 708 + 1 = 709 := ⟨by decide +kernel, rfl⟩
theorem dLW_law_709 : decode b_LW_law 709 = .ok (.iaload, 1) ∧ 709 + 1 = 710 := ⟨by decide +kernel, rfl⟩
theorem dLW_law_710 : decode b_LW_law 710 = .ok (.aload_n 0, 1) ∧ 710 + 1 = 711 := ⟨by decide +kernel, rfl⟩
theorem dLW_law_711 : decode b_LW_law 711 = .ok (.iload_n 3, 1) ∧ 711 + 1 = 712 := ⟨by decide +kernel, rfl⟩
theorem dLW_law_712 : decode b_LW_law 712 = .ok (.iconst 2, 1) ∧ 712 + 1 = 713 := ⟨by decide +kernel, rfl⟩
theorem dLW_law_713 : decode b_LW_law 713 = .ok (.iadd, 1) ∧ 713 + 1 = 714 := ⟨by decide +kernel, rfl⟩
theorem dLW_law_714 : decode b_LW_law 714 = .ok (.iaload, 1) ∧ 714 + 1 = 715 := ⟨by decide +kernel, rfl⟩
theorem dLW_law_715 : decode b_LW_law 715 = .ok (.invokevirtual 98, 3) ∧ 715 + 3 = 718 := ⟨by decide +kernel, rfl⟩
theorem dLW_law_718 : decode b_LW_law 718 = .ok (.if_icmp .eq (117), 3) ∧ 718 + 3 = 721 ∧ ((718 : Nat) : Int) + (117) = ((835 : Nat) : Int) := ⟨by decide +kernel, rfl, by decide⟩
theorem dLW_law_721 : decode b_LW_law 721 = .ok (.iconst 0, 1) ∧ 721 + 1 = 722 := ⟨by decide +kernel, rfl⟩
theorem dLW_law_723 : decode b_LW_law 723 = .ok (.aload_n 1, 1) ∧ 723 + 1 = 724 := ⟨by decide +kernel, rfl⟩
theorem dLW_law_724 : decode b_LW_law 724 = .ok (.aload_n 0, 1) ∧ 724 + 1 = 725 := ⟨by decide +kernel, rfl⟩
theorem dLW_law_725 : decode b_LW_law 725 = .ok (.iload_n 3, 1) ∧ 725 + 1 = 726 := ⟨by decide +kernel, rfl⟩
theorem dLW_law_726 : decode b_LW_law 726 = .ok (.iconst 1, 1) ∧ 726 + 1 = 727 := ⟨by decide +kernel, rfl⟩
theorem dLW_law_727 : decode b_LW_law 727 = .ok (.iadd, 1) ∧ 727 + 1 = 728 := ⟨by decide +kernel, rfl⟩
theorem dLW_law_728 : decode b_LW_law 728 = .ok (.iaload, 1) ∧ 728 + 1 = 729 := ⟨by decide +kernel, rfl⟩
theorem dLW_law_729 : decode b_LW_law 729 = .ok (.invokevirtual 99, 3) ∧ 729 + 3 = 732 := ⟨by decide +kernel, rfl⟩
theorem dLW_law_732 : decode b_LW_law 732 = .ok (.aload_n 2, 1) ∧ 732 + 1 = 733 := ⟨by decide +kernel, rfl⟩
theorem dLW_law_733 : decode b_LW_law 733 = .ok (.aload_n 0, 1) ∧ 733 + 1 = 734 := ⟨by decide +kernel, rfl⟩
theorem dLW_law_734 : decode b_LW_law 734 = .ok (.iload_n 3, 1) ∧ 734 + 1 = 735 := ⟨by decide +kernel, rfl⟩
theorem dLW_law_735 : decode b_LW_law 735 = .ok (.iconst 1, 1) ∧ 735 + 1 = 736 := ⟨by decide +kernel, rfl⟩
theorem dLW_law_736 : decode b_LW_law 736 = .ok (.iadd, 1) ∧ 736 + 1 = 737 := ⟨by decide +kernel, rfl⟩
theorem dLW_law_737 : decode b_LW_law 737 = .ok (.iaload, 1) ∧ 737 + 1 = 738 := ⟨by decide +kernel, rfl⟩
theorem dLW_law_738 : decode b_LW_law 738 = .ok (.invokevirtual 102, 3) ∧ 738 + 3 = 741 := ⟨by decide +kernel, rfl⟩
theorem dLW_law_741 : decode b_LW_law 741 = .ok (.if_icmp .eq (94), 3) ∧ 741 + 3 = 744 ∧ ((741 : Nat) : Int) + (94) = ((835 : Nat) : Int) := ⟨by decide +kernel, rfl, by decide⟩
theorem dLW_law_744 : decode b_LW_law 744 = .ok (.iconst 0, 1) ∧ 744 + 1 = 745 := ⟨by decide +kernel, rfl⟩
theorem dLW_law_746 : decode b_LW_law 746 = .ok (.aload_n 1, 1) ∧ 746 + 1 = 747 := ⟨by decide +kernel, rfl⟩
theorem dLW_law_747 : decode b_LW_law 747 = .ok (.aload_n 0, 1) ∧ 747 + 1 = 748 := ⟨by decide +kernel, rfl⟩
theorem dLW_law_748 : decode b_LW_law 748 = .ok (.iload_n 3, 1) ∧ 748 + 1 = 749 := ⟨by decide +kernel, rfl⟩
theorem dLW_law_749 : decode b_LW_law 749 = .ok (.iconst 1, 1) ∧ 749 + 1 = 750 := ⟨by decide +kernel, rfl⟩
theorem dLW_law_750 : decode b_LW_law 750 = .ok (.iadd, 1) ∧ 750 + 1 = 751 := ⟨by decide +kernel, rfl⟩
theorem dLW_law_751 : decode b_LW_law 751 = .ok (.iaload, 1) ∧ 751 + 1 = 752 := ⟨by decide +kernel, rfl⟩
theorem dLW_law_752 : decode b_LW_law 752 = .ok (.invokevirtual 103, 3) ∧ 752 + 3 = 755 := ⟨by decide +kernel, rfl⟩
theorem dLW_law_755 : decode b_LW_law 755 = .ok (.aload_n 2, 1) ∧ 755 + 1 = 756 := ⟨by decide +kernel, rfl⟩
theorem dLW_law_756 : decode b_LW_law 756 = .ok (.aload_n 0, 1) ∧ 756 + 1 = 757 := ⟨by decide +kernel, rfl⟩
theorem dLW_law_757 : decode b_LW_law 757 = .ok (.iload_n 3, 1) ∧ 757 + 1 = 758 := ⟨by decide +kernel, rfl⟩
theorem dLW_law_758 : decode b_LW_law 758 = .ok (.iconst 1, 1) ∧ 758 + 1 = 759 := ⟨by decide +kernel, rfl⟩
theorem dLW_law_759 : decode b_LW_law 759 = .ok (.iadd, 1) ∧ 759 + 1 = 760 := ⟨by decide +kernel, rfl⟩
theorem dLW_law_760 : decode b_LW_law 760 = .ok (.iaload, 1) ∧ 760 + 1 = 761 := ⟨by decide +kernel, rfl⟩
theorem dLW_law_761 : decode b_LW_law 761 = .ok (.invokevirtual 106, 3) ∧ 761 + 3 = 764 := ⟨by decide +kernel, rfl⟩
theorem dLW_law_764 : decode b_LW_law 764 = .ok (.if_icmp .eq (71), 3) ∧ 764 + 3 = 767 ∧ ((764 : Nat) : Int) + (71) = ((835 : Nat) : Int) := ⟨by decide +kernel, rfl, by decide⟩
theorem dLW_law_767 : decode b_LW_law 767 = .ok (.iconst 0, 1) ∧ 767 + 1 = 768 := ⟨by decide +kernel, rfl⟩
theorem dLW_law_769 : decode b_LW_law 769 = .ok (.aload_n 1, 1) ∧ 769 + 1 = 770 := ⟨by decide +kernel, rfl⟩
theorem dLW_law_770 : decode b_LW_law 770 = .ok (.aload_n 0, 1) ∧ 770 + 1 = 771 := ⟨by decide +kernel, rfl⟩
theorem dLW_law_771 : decode b_LW_law 771 = .ok (.iload_n 3, 1) ∧ 771 + 1 = 772 := ⟨by decide +kernel, rfl⟩
theorem dLW_law_772 : decode b_LW_law 772 = .ok (.iconst 1, 1) ∧ 772 + 1 = 773 := ⟨by decide +kernel, rfl⟩
theorem dLW_law_773 : decode b_LW_law 773 = .ok (.iadd, 1) ∧ 773 + 1 = 774 := ⟨by decide +kernel, rfl⟩
theorem dLW_law_774 : decode b_LW_law 774 = .ok (.iaload, 1) ∧ 774 + 1 = 775 := ⟨by decide +kernel, rfl⟩
theorem dLW_law_775 : decode b_LW_law 775 = .ok (.aload_n 0, 1) ∧ 775 + 1 = 776 := ⟨by decide +kernel, rfl⟩
theorem dLW_law_776 : decode b_LW_law 776 = .ok (.iload_n 3, 1) ∧ 776 + 1 = 777 := ⟨by decide +kernel, rfl⟩
theorem dLW_law_777 : decode b_LW_law 777 = .ok (.iconst 2, 1) ∧ 777 + 1 = 778 := ⟨by decide +kernel, rfl⟩
theorem dLW_law_778 : decode b_LW_law 778 = .ok (.iadd, 1) ∧ 778 + 1 = 779 := ⟨by decide +kernel, rfl⟩
theorem dLW_law_779 : decode b_LW_law 779 = .ok (.iaload, 1) ∧ 779 + 1 = 780 := ⟨by decide +kernel, rfl⟩
theorem dLW_law_780 : decode b_LW_law 780 = .ok (.invokevirtual 107, 3) ∧ 780 + 3 = 783 := ⟨by decide +kernel, rfl⟩
theorem dLW_law_783 : decode b_LW_law 783 = .ok (.aload_n 2, 1) ∧ 783 + 1 = 784 := ⟨by decide +kernel, rfl⟩
theorem dLW_law_784 : decode b_LW_law 784 = .ok (.aload_n 0, 1) ∧ 784 + 1 = 785 := ⟨by decide +kernel, rfl⟩
theorem dLW_law_785 : decode b_LW_law 785 = .ok (.iload_n 3, 1) ∧ 785 + 1 = 786 := ⟨by decide +kernel, rfl⟩
theorem dLW_law_786 : decode b_LW_law 786 = .ok (.iconst 1, 1) ∧ 786 + 1 = 787 := ⟨by decide +kernel, rfl⟩
theorem dLW_law_787 : decode b_LW_law 787 = .ok (.iadd, 1) ∧ 787 + 1 = 788 := ⟨by decide +kernel, rfl⟩
theorem dLW_law_788 : decode b_LW_law 788 = .ok (.iaload, 1) ∧ 788 + 1 = 789 := ⟨by decide +kernel, rfl⟩
theorem dLW_law_789 : decode b_LW_law 789 = .ok (.aload_n 0, 1) ∧ 789 + 1 = 790 := ⟨by decide +kernel, rfl⟩
theorem dLW_law_790 : decode b_LW_law 790 = .ok (.iload_n 3, 1) ∧ 790 + 1 = 791 := ⟨by decide +kernel, rfl⟩
theorem dLW_law_791 : decode b_LW_law 791 = .ok (.iconst 2, 1) ∧ 791 + 1 = 792 := ⟨by decide +kernel, rfl⟩
theorem dLW_law_792 : decode b_LW_law 792 = .ok (.iadd, 1) ∧ 792 + 1 = 793 := ⟨by decide +kernel, rfl⟩
theorem dLW_law_793 : decode b_LW_law 793 = .ok (.iaload, 1) ∧ 793 + 1 = 794 := ⟨by decide +kernel, rfl⟩
theorem dLW_law_794 : decode b_LW_law 794 = .ok (.invokevirtual 110, 3) ∧ 794 + 3 = 797 := ⟨by decide +kernel, rfl⟩
theorem dLW_law_797 : decode b_LW_law 797 = .ok (.if_icmp .eq (38), 3) ∧ 797 + 3 = 800 ∧ ((797 : Nat) : Int) + (38) = ((835 : Nat) : Int) := ⟨by decide +kernel, rfl, by decide⟩
theorem dLW_law_800 : decode b_LW_law 800 = .ok (.iconst 0, 1) ∧ 800 + 1 = 801 := ⟨by decide +kernel, rfl⟩
theorem dLW_law_802 : decode b_LW_law 802 = .ok (.aload_n 1, 1) ∧ 802 + 1 = 803 := ⟨by decide +kernel, rfl⟩
theorem dLW_law_803 : decode b_LW_law 803 = .ok (.aload_n 0, 1) ∧ 803 + 1 = 804 := ⟨by decide +kernel, rfl⟩
theorem dLW_law_804 : decode b_LW_law 804 = .ok (.iload_n 3, 1) ∧ 804 + 1 = 805 := ⟨by decide +kernel, rfl⟩
theorem dLW_law_805 : decode b_LW_law 805 = .ok (.iconst 1, 1) ∧ 805 + 1 = 806 := ⟨by decide +kernel, rfl⟩
theorem dLW_law_806 : decode b_LW_law 806 = .ok (.iadd, 1) ∧ 806 + 1 = 807 := ⟨by decide +kernel, rfl⟩
theorem dLW_law_807 : decode b_LW_law 807 = .ok (.iaload, 1) ∧ 807 + 1 = 808 := ⟨by decide +kernel, rfl⟩
theorem dLW_law_808 : decode b_LW_law 808 = .ok (.aload_n 0, 1) ∧ 808 + 1 = 809 := ⟨by decide +kernel, rfl⟩
theorem dLW_law_809 : decode b_LW_law 809 = .ok (.iload_n 3, 1) ∧ 809 + 1 = 810 := ⟨by decide +kernel, rfl⟩
theorem dLW_law_810 : decode b_LW_law 810 = .ok (.iconst 2, 1) ∧ 810 + 1 = 811 := ⟨by decide +kernel, rfl⟩
theorem dLW_law_811 : decode b_LW_law 811 = .ok (.iadd, 1) ∧ 811 + 1 = 812 := ⟨by decide +kernel, rfl⟩
theorem dLW_law_812 : decode b_LW_law 812 = .ok (.iaload, 1) ∧ 812 + 1 = 813 := ⟨by decide +kernel, rfl⟩
theorem dLW_law_813 : decode b_LW_law 813 = .ok (.invokevirtual 111, 3) ∧ 813 + 3 = 816 := ⟨by decide +kernel, rfl⟩
theorem dLW_law_816 : decode b_LW_law 816 = .ok (.aload_n 2, 1) ∧ 816 + 1 = 817 := ⟨by decide +kernel, rfl⟩
theorem dLW_law_817 : decode b_LW_law 817 = .ok (.aload_n 0, 1) ∧ 817 + 1 = 818 := ⟨by decide +kernel, rfl⟩
theorem dLW_law_818 : decode b_LW_law 818 = .ok (.iload_n 3, 1) ∧ 818 + 1 = 819 := ⟨by decide +kernel, rfl⟩
theorem dLW_law_819 : decode b_LW_law 819 = .ok (.iconst 1, 1) ∧ 819 + 1 = 820 := ⟨by decide +kernel, rfl⟩
theorem dLW_law_820 : decode b_LW_law 820 = .ok (.iadd, 1) ∧ 820 + 1 = 821 := ⟨by decide +kernel, rfl⟩
theorem dLW_law_821 : decode b_LW_law 821 = .ok (.iaload, 1) ∧ 821 + 1 = 822 := ⟨by decide +kernel, rfl⟩
theorem dLW_law_822 : decode b_LW_law 822 = .ok (.aload_n 0, 1) ∧ 822 + 1 = 823 := ⟨by decide +kernel, rfl⟩
theorem dLW_law_823 : decode b_LW_law 823 = .ok (.iload_n 3, 1) ∧ 823 + 1 = 824 := ⟨by decide +kernel, rfl⟩
theorem dLW_law_824 : decode b_LW_law 824 = .ok (.iconst 2, 1) ∧ 824 + 1 = 825 := ⟨by decide +kernel, rfl⟩
theorem dLW_law_825 : decode b_LW_law 825 = .ok (.iadd, 1) ∧ 825 + 1 = 826 := ⟨by decide +kernel, rfl⟩
theorem dLW_law_826 : decode b_LW_law 826 = .ok (.iaload, 1) ∧ 826 + 1 = 827 := ⟨by decide +kernel, rfl⟩
theorem dLW_law_827 : decode b_LW_law 827 = .ok (.invokevirtual 114, 3) ∧ 827 + 3 = 830 := ⟨by decide +kernel, rfl⟩
theorem dLW_law_830 : decode b_LW_law 830 = .ok (.if_icmp .eq (5), 3) ∧ 830 + 3 = 833 ∧ ((830 : Nat) : Int) + (5) = ((835 : Nat) : Int) := ⟨by decide +kernel, rfl, by decide⟩
theorem dLW_law_833 : decode b_LW_law 833 = .ok (.iconst 0, 1) ∧ 833 + 1 = 834 := ⟨by decide +kernel, rfl⟩
theorem dLW_law_835 : decode b_LW_law 835 = .ok (.iinc 3 (6), 3) ∧ 835 + 3 = 838 := ⟨by decide +kernel, rfl⟩
theorem dLW_law_838 : decode b_LW_law 838 = .ok (.goto (-820), 3) ∧ 838 + 3 = 841 ∧ ((838 : Nat) : Int) + (-820) = ((18 : Nat) : Int) := ⟨by decide +kernel, rfl, by decide⟩
theorem dLW_law_841 : decode b_LW_law 841 = .ok (.iconst 1, 1) ∧ 841 + 1 = 842 := ⟨by decide +kernel, rfl⟩
theorem dLW_law_842 : decode b_LW_law 842 = .ok (.ireturn, 1) ∧ 842 + 1 = 843 := ⟨by decide +kernel, rfl⟩
section LWR
variable {lay : List gDesc} {cl : List vw_C} {D : va_G} {ta : Nat → ClassId} {base : Nat} {p : Program} {l : Launch} {e : Env} {R : Room} {s : State} {m : MethodId} {args : Array Value} {below : List Frame} {meth : Method} {c : Code} {cells slots : Nat} {Q : State → Prop} {nL : Nat} {cc : ByteArray} {pc pc' : Nat} {L : List (Nat × Value)} {rest : List Value} {M : gMem} {Ts : List Cond} {own : String}
theorem g_sld (X : CallFix p m c cc nL s args Ts own) {b n0 : Nat} {xs : Nat → Int32} (hX : va_X b n0 xs s s.heap) (hbl : b < s.heap.size) (hbA : ¬ base ≤ b) {i : Int32} (hi : vp_in i n0) (hd : decode cc pc = .ok (.iaload, 1) ∧ pc + 1 = pc') (kt : GW lay cl D ta base p l e R s m args below meth c cells slots Q nL pc' L (.int (xs i.toNatClampNeg) :: rest) M) : GW lay cl D ta base p l e R s m args below meth c cells slots Q nL pc L (.int i :: .ref b :: rest) M := by
  obtain ⟨hd, rfl⟩ := hd
  intro H locs ls a1 a2 a3
  exact va_sld X.1 X.2.1 hX hbl hbA a2 hi hd (kt H locs ls a1 a2 a3)
theorem g_sln (X : CallFix p m c cc nL s args Ts own) {b n0 : Nat} {xs : Nat → Int32} (hX : va_X b n0 xs s s.heap) (hbl : b < s.heap.size) (hbA : ¬ base ≤ b) (hd : decode cc pc = .ok (.arraylength, 1) ∧ pc + 1 = pc') (kt : GW lay cl D ta base p l e R s m args below meth c cells slots Q nL pc' L (.int (Int32.ofNat n0) :: rest) M) : GW lay cl D ta base p l e R s m args below meth c cells slots Q nL pc L (.ref b :: rest) M := by
  obtain ⟨hd, rfl⟩ := hd
  intro H locs ls a1 a2 a3
  exact va_slen X.1 X.2.1 hX hbl hbA a2 hd (kt H locs ls a1 a2 a3)
theorem g_lawret {b : Nat} (hs : base = s.heap.size) (X : CallFix p m c code nL s #[Value.ref b] Ts own) (hr : meth.sig.returnType = ret) (hlk : meth.locks = false) (hd : decode code pc = .ok (.ireturn, 1) ∧ pc + 1 = pc') : GW lay cl D ta base p l e room_1 s m #[Value.ref b] below meth c 75 66336 (lw_Z below #[Value.ref b] s) nL pc L [.int 1] M := by
  intro H locs ls a1 a2 a3
  refine va_forget (fun q hq => ?_) (lw_ret X.1 X.2.1 hr hlk hd.1)
  rw [← hs]
  exact a2.2.2 q hq
end LWR

