section GM
variable {lay : List gDesc} {cl : List vw_C} {D : va_G} {ta : Nat → ClassId} {base : Nat} {p : Program} {l : Launch} {e : Env} {R : Room} {s : State} {m : MethodId} {args : Array Value} {below : List Frame} {meth : Method} {c : Code} {cells slots : Nat} {Q : State → Prop} {nL : Nat} {cc : ByteArray} {pc pc' : Nat} {L : List (Nat × Value)} {rest : List Value} {M : gMem} {Ts nw : List Cond} {own : String}
abbrev gTys (ta : Nat → ClassId) : List (ClassId × FieldType) := [(ta 0, .int), (ta 1, .byte)]
def gFl (cl : List vw_C) (Ts : List Cond) (own : String) (index ci j : Nat) : Prop := ∃ (C : String) (T : u_T) (N : Nat), cl[ci]? = some (C, T, N) ∧ (∀ w ∈ u_ws C T N, w ∈ Ts) ∧ j < N ∧ Cond.fieldLink own index (T j).1 (T j).2.1 (T j).2.2.1 ∈ Ts
def gFn (cl : List vw_C) (Ts nw : List Cond) (own : String) (index ci j : Nat) : Prop := ∃ (C : String) (T : u_T) (N : Nat) (host : String), cl[ci]? = some (C, T, N) ∧ (∀ w ∈ u_ws C T N, w ∈ Ts) ∧ j < N ∧ Cond.fieldLinkNest own index (T j).1 (T j).2.1 (T j).2.2.1 host ∈ nw
/-- the fields of a class that may be written: int, not final -/
def gPk (cl : List vw_C) (ci j : Nat) : Prop := ∀ (C : String) (T : u_T) (N : Nat), cl[ci]? = some (C, T, N) → (∃ ty0 : Nat → FieldType, ∀ k, k < N → parseFieldDescriptor (T k).2.2.1 = some (ty0 k)) ∧ (∀ a, a < N → ∀ b, b < N → a ≠ b → (T a).2.1 ≠ (T b).2.1) ∧ (T j).2.2.2 = false ∧ parseFieldDescriptor (T j).2.2.1 = some .int
theorem g_getv (X : CallFix p m c cc nL s args Ts own) (hK : va_K D cl (gTys ta) s) {index k ci j : Nat} {fs : List (Option Nat)} {o : Option Nat} (hf : gFl cl Ts own index ci j) (hk : lay[k]? = some (.inr (ci, fs))) (hj : fs[j]? = some o) (hd : decode cc pc = .ok (.getfield index, 3) ∧ pc + 3 = pc') (kt : GW lay cl D ta base p l e R s m args below meth c cells slots Q nL pc' L (gRef base (M k) j o :: rest) M) : GW lay cl D ta base p l e R s m args below meth c cells slots Q nL pc L (.ref (base + k) :: rest) M := by
  obtain ⟨hd, rfl⟩ := hd
  obtain ⟨C, T, N, h1, h2, h3, h4⟩ := hf
  intro H locs ls a1 a2 a3
  exact va_get (D := D) (ci := ci) (v := gRef base (M k) j o) X.1 X.2.1 X.2.2.2.2 h2 X.2.2.2.1 hK a1 k (gWd_at hk) h1 j h3 (X.2.2.2.2 _ h4) (fun _ h9 => h9) (by rw [gFld_get, hj]; simp) hd (kt H locs ls a1 a2 a3)
theorem g_getvN (X : CallFix p m c cc nL s args Ts own) (hK : va_K D cl (gTys ta) s) (hN : ∀ w ∈ nw, va_Nw w s) {index k ci j : Nat} {fs : List (Option Nat)} {o : Option Nat} (hf : gFn cl Ts nw own index ci j) (hk : lay[k]? = some (.inr (ci, fs))) (hj : fs[j]? = some o) (hd : decode cc pc = .ok (.getfield index, 3) ∧ pc + 3 = pc') (kt : GW lay cl D ta base p l e R s m args below meth c cells slots Q nL pc' L (gRef base (M k) j o :: rest) M) : GW lay cl D ta base p l e R s m args below meth c cells slots Q nL pc L (.ref (base + k) :: rest) M := by
  obtain ⟨hd, rfl⟩ := hd
  obtain ⟨C, T, N, host, h1, h2, h3, h4⟩ := hf
  intro H locs ls a1 a2 a3
  exact va_getN (D := D) (ci := ci) (v := gRef base (M k) j o) X.1 X.2.1 X.2.2.2.2 h2 X.2.2.2.1 hK a1 k (gWd_at hk) h1 j h3 (va_Nw.use rfl (hN _ h4)) (fun _ h9 => h9) (by rw [gFld_get, hj]; simp) hd (kt H locs ls a1 a2 a3)
theorem g_puti (X : CallFix p m c cc nL s args Ts own) (hK : va_K D cl (gTys ta) s) {index k ci j : Nat} {fs : List (Option Nat)} {x : Int32} (hf : gFl cl Ts own index ci j) (hp : gPk cl ci j) (hk : lay[k]? = some (.inr (ci, fs))) (hj : fs[j]? = some none) (hd : decode cc pc = .ok (.putfield index, 3) ∧ pc + 3 = pc') (kt : GW lay cl D ta base p l e R s m args below meth c cells slots Q nL pc' L rest (va_up M k (upd (M k) j x))) : GW lay cl D ta base p l e R s m args below meth c cells slots Q nL pc L (.int x :: .ref (base + k) :: rest) M := by
  obtain ⟨hd, rfl⟩ := hd
  obtain ⟨C, T, N, h1, h2, h3, h4⟩ := hf
  obtain ⟨⟨ty0, p1⟩, p2, p3, p4⟩ := hp C T N h1
  intro H locs ls a1 a2 a3
  refine va_put (D := D) (ci := ci) (v := .int x) (ty := .int) X.1 X.2.1 X.2.2.2.2 h2 ty0 p1 p2 X.2.2.2.1 hK a1 gWd_D a2 k (gWd_at hk) h1 j h3 (X.2.2.2.2 _ h4) (fun _ h9 => h9) p3 p4 rfl rfl ?_ hd (fun H1 locs1 b1 b2 b3 => ?_)
  · have h5 : (gFld base (M k) 0 fs)[j]? = some (.int (M k (0 + j))) := by rw [gFld_get, hj]; rfl
    exact (List.getElem?_eq_some_iff.mp h5).1
  · rw [gWd_setF hk hj] at b1
    exact kt H1 locs1 ls b1 b3 a3
theorem g_putiN (X : CallFix p m c cc nL s args Ts own) (hK : va_K D cl (gTys ta) s) (hN : ∀ w ∈ nw, va_Nw w s) {index k ci j : Nat} {fs : List (Option Nat)} {x : Int32} (hf : gFn cl Ts nw own index ci j) (hp : gPk cl ci j) (hk : lay[k]? = some (.inr (ci, fs))) (hj : fs[j]? = some none) (hd : decode cc pc = .ok (.putfield index, 3) ∧ pc + 3 = pc') (kt : GW lay cl D ta base p l e R s m args below meth c cells slots Q nL pc' L rest (va_up M k (upd (M k) j x))) : GW lay cl D ta base p l e R s m args below meth c cells slots Q nL pc L (.int x :: .ref (base + k) :: rest) M := by
  obtain ⟨hd, rfl⟩ := hd
  obtain ⟨C, T, N, host, h1, h2, h3, h4⟩ := hf
  obtain ⟨⟨ty0, p1⟩, p2, p3, p4⟩ := hp C T N h1
  intro H locs ls a1 a2 a3
  refine va_putN (D := D) (ci := ci) (v := .int x) (ty := .int) X.1 X.2.1 X.2.2.2.2 h2 ty0 p1 p2 X.2.2.2.1 hK a1 gWd_D a2 k (gWd_at hk) h1 j h3 (va_Nw.use rfl (hN _ h4)) (fun _ h9 => h9) p3 p4 rfl rfl ?_ hd (fun H1 locs1 b1 b2 b3 => ?_)
  · have h5 : (gFld base (M k) 0 fs)[j]? = some (.int (M k (0 + j))) := by rw [gFld_get, hj]; rfl
    exact (List.getElem?_eq_some_iff.mp h5).1
  · rw [gWd_setF hk hj] at b1
    exact kt H1 locs1 ls b1 b3 a3
theorem g_iald (X : CallFix p m c cc nL s args Ts own) (hK : va_K D cl (gTys ta) s) {k n : Nat} {i : Int32} (hk : lay[k]? = some (.inl (0, n))) (hi : vp_in i n) (hd : decode cc pc = .ok (.iaload, 1) ∧ pc + 1 = pc') (kt : GW lay cl D ta base p l e R s m args below meth c cells slots Q nL pc' L (.int (M k i.toNatClampNeg) :: rest) M) : GW lay cl D ta base p l e R s m args below meth c cells slots Q nL pc L (.int i :: .ref (base + k) :: rest) M := by
  obtain ⟨hd, rfl⟩ := hd
  intro H locs ls a1 a2 a3
  exact va_iald X.1 X.2.1 hK a1 k 0 (gWd_at hk) rfl hi hd (kt H locs ls a1 a2 a3)
theorem g_bald (X : CallFix p m c cc nL s args Ts own) (hK : va_K D cl (gTys ta) s) {k n : Nat} {i : Int32} (hk : lay[k]? = some (.inl (1, n))) (hi : vp_in i n) (hd : decode cc pc = .ok (.baload, 1) ∧ pc + 1 = pc') (kt : GW lay cl D ta base p l e R s m args below meth c cells slots Q nL pc' L (.int (M k i.toNatClampNeg) :: rest) M) : GW lay cl D ta base p l e R s m args below meth c cells slots Q nL pc L (.int i :: .ref (base + k) :: rest) M := by
  obtain ⟨hd, rfl⟩ := hd
  intro H locs ls a1 a2 a3
  exact va_bald X.1 X.2.1 hK a1 k 1 (gWd_at hk) rfl hi hd (kt H locs ls a1 a2 a3)
theorem g_iast (X : CallFix p m c cc nL s args Ts own) (hK : va_K D cl (gTys ta) s) {k n : Nat} {i x : Int32} (hk : lay[k]? = some (.inl (0, n))) (hi : vp_in i n) (hd : decode cc pc = .ok (.iastore, 1) ∧ pc + 1 = pc') (kt : GW lay cl D ta base p l e R s m args below meth c cells slots Q nL pc' L rest (va_up M k (upd (M k) i.toNatClampNeg x))) : GW lay cl D ta base p l e R s m args below meth c cells slots Q nL pc L (.int x :: .int i :: .ref (base + k) :: rest) M := by
  obtain ⟨hd, rfl⟩ := hd
  intro H locs ls a1 a2 a3
  refine va_iast X.1 X.2.1 hK a1 gWd_D a2 k 0 (gWd_at hk) rfl hi hd (fun H1 locs1 b1 b2 b3 => ?_)
  rw [gWd_setA hk] at b1
  exact kt H1 locs1 ls b1 b3 a3
theorem g_bast (X : CallFix p m c cc nL s args Ts own) (hK : va_K D cl (gTys ta) s) {k n : Nat} {i x : Int32} (hk : lay[k]? = some (.inl (1, n))) (hi : vp_in i n) (hd : decode cc pc = .ok (.bastore, 1) ∧ pc + 1 = pc') (kt : GW lay cl D ta base p l e R s m args below meth c cells slots Q nL pc' L rest (va_up M k (upd (M k) i.toNatClampNeg (vp_nar .byte x)))) : GW lay cl D ta base p l e R s m args below meth c cells slots Q nL pc L (.int x :: .int i :: .ref (base + k) :: rest) M := by
  obtain ⟨hd, rfl⟩ := hd
  intro H locs ls a1 a2 a3
  refine va_bast X.1 X.2.1 hK a1 gWd_D a2 k 1 (gWd_at hk) rfl hi hd (fun H1 locs1 b1 b2 b3 => ?_)
  rw [gWd_setA hk] at b1
  exact kt H1 locs1 ls b1 b3 a3
theorem g_alen (X : CallFix p m c cc nL s args Ts own) (hK : va_K D cl (gTys ta) s) {k t n : Nat} {v : Int32} (hk : lay[k]? = some (.inl (t, n))) (ht : t < 2) (hv : Int32.ofNat n = v) (hd : decode cc pc = .ok (.arraylength, 1) ∧ pc + 1 = pc') (kt : GW lay cl D ta base p l e R s m args below meth c cells slots Q nL pc' L (.int v :: rest) M) : GW lay cl D ta base p l e R s m args below meth c cells slots Q nL pc L (.ref (base + k) :: rest) M := by
  obtain ⟨hd, rfl⟩ := hd
  intro H locs ls a1 a2 a3
  rcases (show t = 0 ∨ t = 1 by omega) with rfl | rfl
  · exact va_alen X.1 X.2.1 hK a1 k 0 (gWd_at hk) rfl hv hd (kt H locs ls a1 a2 a3)
  · exact va_alen X.1 X.2.1 hK a1 k 1 (gWd_at hk) rfl hv hd (kt H locs ls a1 a2 a3)
/-- fewer locals -/
theorem g_sub {L' : List (Nat × Value)} {st : List Value} (ks : List Nat) (h : lv_pick L ks = L') (kt : GW lay cl D ta base p l e R s m args below meth c cells slots Q nL pc L' st M) : GW lay cl D ta base p l e R s m args below meth c cells slots Q nL pc L st M := fun H locs ls a1 a2 a3 => kt H locs ls a1 a2 (lv_sub a3 ks h)
theorem g_lcmp (X : CallFix p m c cc nL s args Ts own) {x y : Int64} (hd : decode cc pc = .ok (.lcmp, 1) ∧ pc + 1 = pc') (kt : GW lay cl D ta base p l e R s m args below meth c cells slots Q nL pc' L (.int (lg_cmp x y) :: rest) M) : GW lay cl D ta base p l e R s m args below meth c cells slots Q nL pc L (.long y :: .long x :: rest) M := by
  obtain ⟨hd, rfl⟩ := hd
  exact fun H locs ls a1 a2 a3 => W.lcmp X.1 X.2.1 hd (kt H locs ls a1 a2 a3)
end GM
section GC1
variable {lay : List gDesc} {cl : List vw_C} {D : va_G} {ta : Nat → ClassId} {base : Nat} {nw : List Cond} {sa : Nat → Nat} {tabs : List (String × String × List Int32)}
def gNest (w : Cond) : Prop := (∃ a i b n d h, w = .fieldLinkNest a i b n d h) ∨ ∃ a i x h, w = .methodLinkNest a i x h
theorem gNest.warm {w : Cond} (hw : gNest w) {s U : State} (hW : s.WarmedH U.vm) (h : va_Nw w s) : va_Nw w U := by
  rcases hw with ⟨a, i, b, n, d, q, rfl⟩ | ⟨a, i, x, q, rfl⟩
  · exact va_Nw.warmF hW h
  · exact va_Nw.warmM hW h
theorem gNest.same {w : Cond} (hw : gNest w) {s U : State} (hv : s.vm = U.vm) (h : va_Nw w s) : va_Nw w U := by
  rcases hw with ⟨a, i, b, n, d, q, rfl⟩ | ⟨a, i, x, q, rfl⟩
  · exact va_Nw.same rfl hv h
  · exact va_Nw.same rfl hv h
/-- a static array of ints that nobody writes: declarer, name, numbers -/
def gTab (base : Nat) (sa : Nat → Nat) (tabs : List (String × String × List Int32)) (U : State) (H : Heap) : Prop := ∀ (j : Nat) (x : String × String × List Int32), tabs[j]? = some x → va_Z x.1 x.2.1 "[I" (.ref (sa j)) (fun q => base ≤ q) U H ∧ va_T .int (sa j) x.2.2.length (fun i => .int (x.2.2.getD i 0)) (fun q => base ≤ q) U H
/-- what the start says of the String constants, and of two statics of the JDK's -/
def gSu (sa : Nat → Nat) : Value := va_rf (if sa 300 = 0 then none else some (sa 300 - 1))
def gStr (base : Nat) (sa : Nat → Nat) (U : State) (H : Heap) : Prop := vk_S gSn gSlens gSbyts (fun k => sa (100 + k)) (fun k => sa (200 + k)) (fun q => base ≤ q) U H ∧ (∀ (k : Nat) (x : String × Nat × String), gSrefs[k]? = some x → vk_R x.1 x.2.1 x.2.2 (sa (100 + k)) U) ∧ va_Z "java/lang/String" "COMPACT_STRINGS" "Z" (.int 1) (fun q => base ≤ q) U H ∧ va_Z "jdk/internal/util/Preconditions" "SIOOBE_FORMATTER" "Ljava/util/function/BiFunction;" (gSu sa) (fun q => base ≤ q) U H
theorem gStr.to {base : Nat} {sa : Nat → Nat} {s U : State} (h : gStr base sa s s.heap) (hW : s.WarmedH U.vm) (hq : ∀ a : Nat, a < s.heap.size → ¬ base ≤ a → U.heap[a]? = s.heap[a]?) : gStr base sa U U.heap := by
  obtain ⟨h1, h2, h3, h4⟩ := h
  exact ⟨(vk_S.moved hW.alike h1).kept hq, fun k x hx => (h2 k x hx).warm hW, (va_Z.moved hW.alike h3).kept hq, (va_Z.moved hW.alike h4).kept hq⟩
theorem gStr.same {base : Nat} {sa : Nat → Nat} {s U : State} (h : gStr base sa s s.heap) (hv : s.vm = U.vm) (hh : U.heap = s.heap) : gStr base sa U U.heap := by
  obtain ⟨h1, h2, h3, h4⟩ := h
  have hA : s.vm.Alike U.vm := by rw [← hv]; exact Vm.Alike.refl _
  rw [hh]
  exact ⟨vk_S.moved hA h1, fun k x hx => (h2 k x hx).same hv.symm, va_Z.moved hA h3, va_Z.moved hA h4⟩
def gK (cl : List vw_C) (D : va_G) (ta : Nat → ClassId) (base : Nat) (nw : List Cond) (sa : Nat → Nat) (tabs : List (String × String × List Int32)) (U : State) : Prop := va_K D cl (gTys ta) U ∧ (∀ w ∈ nw, gNest w ∧ va_Nw w U) ∧ gTab base sa tabs U U.heap ∧ gStr base sa U U.heap
theorem gK.to {s U : State} (h : gK cl D ta base nw sa tabs s) (hW : s.WarmedH U.vm) (hq : ∀ a : Nat, a < s.heap.size → ¬ base ≤ a → U.heap[a]? = s.heap[a]?) : gK cl D ta base nw sa tabs U := by
  obtain ⟨h1, h2, h3, h4⟩ := h
  refine ⟨va_K.moved hW.alike h1, fun w hw => ⟨(h2 w hw).1, (h2 w hw).1.warm hW (h2 w hw).2⟩, fun j x hx => ?_, h4.to hW hq⟩
  obtain ⟨a1, a2⟩ := h3 j x hx
  exact ⟨(va_Z.moved hW.alike a1).kept hq, (va_T.moved hW.alike a2).kept hq⟩
theorem gK.same {s U : State} (h : gK cl D ta base nw sa tabs s) (hv : s.vm = U.vm) (hh : U.heap = s.heap) : gK cl D ta base nw sa tabs U := by
  obtain ⟨h1, h2, h3, h4⟩ := h
  have hA : s.vm.Alike U.vm := by rw [← hv]; exact Vm.Alike.refl _
  refine ⟨va_K.moved hA h1, fun w hw => ⟨(h2 w hw).1, (h2 w hw).1.same hv (h2 w hw).2⟩, fun j x hx => ?_, h4.same hv hh⟩
  obtain ⟨a1, a2⟩ := h3 j x hx
  rw [hh]
  exact ⟨va_Z.moved hA a1, va_T.moved hA a2⟩
def gPc (lay : List gDesc) (cl : List vw_C) (D : va_G) (ta : Nat → ClassId) (base : Nat) (nw : List Cond) (sa : Nat → Nat) (tabs : List (String × String × List Int32)) (av : List Value) (M : gMem) : Array Value → State → Prop := va_Pc av (fun U => va_P D cl (gWd base ta M 0 lay) U.heap ∧ gK cl D ta base nw sa tabs U)
def gQ (lay : List gDesc) (cl : List vw_C) (D : va_G) (ta : Nat → ClassId) (base : Nat) (post : Option Value → gMem → Prop) : Array Value → State → Outcome → State → Prop := fun _ st oc t => ∃ (r : Option Value) (M : gMem), oc = .returned r ∧ post r M ∧ va_P D cl (gWd base ta M 0 lay) t.heap ∧ va_F (fun q => base ≤ q) st t
theorem gPc.blind {av : List Value} {M : gMem} : FrameBlind (gPc lay cl D ta base nw sa tabs av M) := by
  intro a U g mk h
  obtain ⟨h1, h2, h3⟩ := h
  exact ⟨h1, h2, h3.same rfl rfl⟩
abbrev gRm (f lo : Nat) : Room := { frames := f, cells := 0, slots := 0, locals := lo }
/-- a method's contract: from numbers M it returns with the post -/
def GC (lay : List gDesc) (cl : List vw_C) (D : va_G) (ta : Nat → ClassId) (base : Nat) (nw : List Cond) (sa : Nat → Nat) (tabs : List (String × String × List Int32)) (Ts : List Cond) (l : Launch) (y : MethodName) (cc : ByteArray) (maxL : Nat) (ret : Option FieldType) (f lo : Nat) (av : List Value) (M : gMem) (post : Option Value → gMem → Prop) : Prop :=
  Met l y (Cond.code y cc maxL ret :: Ts) (gRm f lo) (gPc lay cl D ta base nw sa tabs av M) (gQ lay cl D ta base post) 0 0 (fun q => base ≤ q)
theorem GC.of {Ts : List Cond} {l : Launch} {y : MethodName} {cc : ByteArray} {maxL : Nat} {ret : Option FieldType} {f lo : Nat} {av : List Value} {M : gMem} {post : Option Value → gMem → Prop} {own : String} (hy : plainName y.cls = true) (ho : y.cls = own) (hlen : (lg_sl av).length ≤ maxL)
    (body : ∀ (p : Program) (e : Env) (s : State) (m : MethodId) (below : List Frame) (meth : Method) (c : Code), CallFix p m c cc maxL s av.toArray Ts own → gK cl D ta base nw sa tabs s → meth.sig.returnType = ret → meth.locks = false →
      GW lay cl D ta base p l e (gRm f lo) s m av.toArray below meth c 0 0 (MQ below (gQ lay cl D ta base post) av.toArray s 0 0 (fun q => base ≤ q)) maxL 0 (lv_args 0 av) [] M) : GC lay cl D ta base nw sa tabs Ts l y cc maxL ret f lo av M post := by
  refine Met.ofW (cc := cc) (maxL := maxL) (ret := ret) hy rfl ?_
  intro p e s m args below meth c s₁ B hml hv
  obtain ⟨rfl, hP, hK⟩ := hv
  have hts := atoms_spec (ws := Cond.code y cc maxL ret :: Ts) B.pre
  have hl := lv_entry av hlen
  rw [lg_entry_eq]
  exact body p e s m below meth c ⟨B.exec, B.bytes, hml, ho ▸ findClass_of_methodNamed B.named, fun w hw => hts w (List.mem_cons_of_mem _ hw)⟩ hK B.returns B.notSynchronized s.heap [] _ hP va_S.rf hl
theorem GC.ofF {Ts : List Cond} {l : Launch} {y : MethodName} {cc : ByteArray} {maxL : Nat} {ret : Option FieldType} {f lo : Nat} {av : List Value} {M : gMem} {post : Option Value → gMem → Prop} {own : String} (hy : plainFor y = true) (ho : y.cls = own) (hlen : (lg_sl av).length ≤ maxL)
    (body : ∀ (p : Program) (e : Env) (s : State) (m : MethodId) (below : List Frame) (meth : Method) (c : Code), CallFix p m c cc maxL s av.toArray Ts own → gK cl D ta base nw sa tabs s → meth.sig.returnType = ret → meth.locks = false →
      GW lay cl D ta base p l e (gRm f lo) s m av.toArray below meth c 0 0 (MQ below (gQ lay cl D ta base post) av.toArray s 0 0 (fun q => base ≤ q)) maxL 0 (lv_args 0 av) [] M) : GC lay cl D ta base nw sa tabs Ts l y cc maxL ret f lo av M post := by
  refine va_MetF (cc := cc) (maxL := maxL) (ret := ret) hy rfl ?_
  intro p e s m args below meth c s₁ B hml hv
  obtain ⟨rfl, hP, hK⟩ := hv
  have hts := atoms_spec (ws := Cond.code y cc maxL ret :: Ts) B.pre
  have hl := lv_entry av hlen
  rw [lg_entry_eq]
  exact body p e s m below meth c ⟨B.exec, B.bytes, hml, ho ▸ findClass_of_methodNamed B.named, fun w hw => hts w (List.mem_cons_of_mem _ hw)⟩ hK B.returns B.notSynchronized s.heap [] _ hP va_S.rf hl
end GC1
section GC2
variable {lay : List gDesc} {cl : List vw_C} {D : va_G} {ta : Nat → ClassId} {base : Nat} {nw : List Cond} {sa : Nat → Nat} {tabs : List (String × String × List Int32)} {p : Program} {l : Launch} {e : Env} {R : Room} {s : State} {m : MethodId} {args : Array Value} {below : List Frame} {meth : Method} {c : Code} {cells slots : Nat} {Q : State → Prop} {nL : Nat} {cc : ByteArray} {pc pc' : Nat} {L : List (Nat × Value)} {rest : List Value} {M : gMem} {Ts : List Cond} {own : String} {post : Option Value → gMem → Prop}
theorem g_iret (X : CallFix p m c cc nL s args Ts own) (hr : meth.sig.returnType = some .int) (hlocks : meth.locks = false) {v : Int32} (hd : decode cc pc = .ok (.ireturn, 1) ∧ pc + 1 = pc') (hp : post (some (.int v)) M) : GW lay cl D ta base p l e R s m args below meth c cells slots (MQ below (gQ lay cl D ta base post) args s cells slots (fun q => base ≤ q)) nL pc L [.int v] M := by
  intro H locs ls a1 a2 a3
  exact W.iret (v := v) X.1 X.2.1 hr (fun t ht hW => ⟨_, M, rfl, hp, by rw [ht]; exact a1, a2.F ht⟩) a2.2.2 hd.1 hlocks
theorem g_zret (X : CallFix p m c cc nL s args Ts own) (hr : meth.sig.returnType = some .boolean) (hlocks : meth.locks = false) {v : Int32} (hn : narrow .boolean (.int v) = .int v) (hd : decode cc pc = .ok (.ireturn, 1) ∧ pc + 1 = pc') (hp : post (some (.int v)) M) : GW lay cl D ta base p l e R s m args below meth c cells slots (MQ below (gQ lay cl D ta base post) args s cells slots (fun q => base ≤ q)) nL pc L [.int v] M := by
  intro H locs ls a1 a2 a3
  exact W.zret (v := v) X.1 X.2.1 hr hn (fun t ht hW => ⟨_, M, rfl, hp, by rw [ht]; exact a1, a2.F ht⟩) a2.2.2 hd.1 hlocks
theorem g_lret (X : CallFix p m c cc nL s args Ts own) (hr : meth.sig.returnType = some .long) (hlocks : meth.locks = false) {v : Int64} (hd : decode cc pc = .ok (.lreturn, 1) ∧ pc + 1 = pc') (hp : post (some (.long v)) M) : GW lay cl D ta base p l e R s m args below meth c cells slots (MQ below (gQ lay cl D ta base post) args s cells slots (fun q => base ≤ q)) nL pc L [.long v] M := by
  intro H locs ls a1 a2 a3
  exact W.lret (v := v) X.1 X.2.1 hr (fun t ht hW => ⟨_, M, rfl, hp, by rw [ht]; exact a1, a2.F ht⟩) a2.2.2 hd.1 hlocks
theorem g_vret (X : CallFix p m c cc nL s args Ts own) (hr : meth.sig.returnType = none) (hlocks : meth.locks = false) (hd : decode cc pc = .ok (.return_, 1) ∧ pc + 1 = pc') (hp : post none M) : GW lay cl D ta base p l e R s m args below meth c cells slots (MQ below (gQ lay cl D ta base post) args s cells slots (fun q => base ≤ q)) nL pc L [] M := by
  intro H locs ls a1 a2 a3
  exact W.vret X.1 X.2.1 hr (fun t ht hW => ⟨_, M, rfl, hp, by rw [ht]; exact a1, a2.F ht⟩) a2.2.2 hd.1 hlocks
theorem g_after {st0 : List Value} {a : Array Value} (hr : ∀ (H : Heap) (locs : List Loc) (ls : Array Slot), va_P D cl (gWd base ta M 0 lay) H → va_S (fun q => base ≤ q) s.heap H locs → lv_has ls nL L → va_Run p l e R s m args below meth c H locs cells slots 0 0 (F0 m pc ls st0) rest (gQ lay cl D ta base post a) (fun q => base ≤ q)) (hp : pc + 3 = pc')
    (kt : ∀ (r : Option Value) (M' : gMem), post r M' → GW lay cl D ta base p l e R s m args below meth c cells slots Q nL pc' L (r.toList ++ rest) M') : GW lay cl D ta base p l e R s m args below meth c cells slots Q nL pc L st0 M := by
  subst hp
  intro H locs ls a1 a2 a3 T hT X
  obtain ⟨v, st₀, t, T', L', h0, X', hL, e1, e2, ⟨r, M', hv, hp, hP', hz, hk⟩, st⟩ := hr H locs ls a1 a2 a3 T hT X
  cases hv
  rw [h0] at hz hk
  obtain ⟨t2, b1, b2⟩ := kt v M' hp t.heap (locs ++ L') ls hP' ⟨Nat.le_trans a2.1 hz, fun q h1 h2 => by rw [hk q (Nat.lt_of_lt_of_le h1 a2.1) h2]; exact a2.2.1 q h1 h2, fun q hq => by
      rcases List.mem_append.mp hq with h | h
      · exact a2.2.2 q h
      · exact hL q h⟩ a3 T' e1 X'
  exact ⟨t2, st t2 b1, b2⟩
/-- what a call of a method of the table needs of the words -/
def gMw (Ts : List Cond) (y : MethodName) (bytes : ByteArray) (maxL : Nat) (ret : Option FieldType) (n : Nat) : Prop := Cond.code y bytes maxL ret ∈ Ts ∧ Cond.initialized y.cls ∈ Ts ∧ (y.cls ≠ "java/lang/invoke/MethodHandle" ∧ y.cls ≠ "java/lang/invoke/VarHandle" ∧ (parseMethodDescriptor y.desc).map (fun d => d.parameters.length) = some n)
def gGood (Ts : List Cond) : Prop := ∀ w ∈ Ts, (w.onTables && w.keeps) = true ∨ ∃ ty, w = .arrayClass ty
theorem gGood.in {Ts ws : List Cond} (h : gGood Ts) (hs : ∀ w ∈ ws, w ∈ Ts) : GoodIn Ts ws := fun w hw => ⟨hs w hw, h w (hs w hw)⟩
variable {y : MethodName} {bytes : ByteArray} {maxL n : Nat} {ret : Option FieldType} {f lo : Nat} {As : List Value}
theorem g_preS {H : Heap} {locs : List Loc} {av : List Value} (hK : gK cl D ta base nw sa tabs s) (a1 : va_P D cl (gWd base ta M 0 lay) H) (a2 : va_S (fun q => base ≤ q) s.heap H locs) : PreS s H (gPc lay cl D ta base nw sa tabs av M) av :=
  ⟨gPc.blind, fun U hU hW => ⟨rfl, by rw [hU]; exact a1, hK.to hW (fun q h1 h2 => by rw [hU]; exact a2.2.1 q h1 h2)⟩⟩
theorem g_callB (hG : gGood Ts) (ht : ∀ w ∈ Ts, w.before args s = true) {index : Nat} (hw : gMw Ts y bytes maxL ret n) (hl : Cond.methodLink own index y ∈ Ts) (hR : f + 1 ≤ R.frames ∧ 8 + (maxL + 11) + lo ≤ R.locals) : CallB R s args own index y bytes maxL ret (Cond.code y bytes maxL ret :: Ts) (gRm f lo) 0 0 n := by
  obtain ⟨w1, w2, w3⟩ := hw
  refine callB_of n ht (hG.in (fun w h => ?_)) rfl rfl rfl (ht _ w2) (ht _ hl) w3 hR
  rcases List.mem_cons.mp h with h | h
  · rw [h]; exact w1
  · exact h
theorem g_callN (hG : gGood Ts) (ht : ∀ w ∈ Ts, w.before args s = true) {index : Nat} {host : String} (hw : gMw Ts y bytes maxL ret n) (hl : va_Nw (.methodLinkNest own index y host) s) (hR : f + 1 ≤ R.frames ∧ 8 + (maxL + 11) + lo ≤ R.locals) : va_CN R s args own index y host bytes maxL ret (Cond.code y bytes maxL ret :: Ts) (gRm f lo) 0 0 n := by
  obtain ⟨w1, w2, w3⟩ := hw
  refine va_cnB n ht (hG.in (fun w h => ?_)) rfl rfl rfl hl (ht _ w2) w3 hR
  rcases List.mem_cons.mp h with h | h
  · rw [h]; exact w1
  · exact h
/-- a static method, no nest mate's -/
theorem g_callS (X : CallFix p m c cc nL s args Ts own) (hK : gK cl D ta base nw sa tabs s) (hG : gGood Ts) {index : Nat} (hw : gMw Ts y bytes maxL ret n) (hl : Cond.methodLink own index y ∈ Ts) (hst : Cond.static y ∈ Ts) (hn : As.length = n) (hR : f + 1 ≤ R.frames ∧ 8 + (maxL + 11) + lo ≤ R.locals ∧ cells ≤ R.cells ∧ slots ≤ R.slots) (hM : GC lay cl D ta base nw sa tabs Ts l y bytes maxL ret f lo As M post) {st0 : List Value} (hs0 : st0 = As.reverse ++ rest) (hrest : (rest.map fun v => v.category).sum ≤ 8) (hd : decode cc pc = .ok (.invokestatic index, 3) ∧ pc + 3 = pc')
    (kt : ∀ (r : Option Value) (M' : gMem), post r M' → GW lay cl D ta base p l e R s m args below meth c cells slots Q nL pc' L (r.toList ++ rest) M') : GW lay cl D ta base p l e R s m args below meth c cells slots Q nL pc L st0 M := by
  subst hs0
  refine g_after (a := As.toArray) (fun H locs ls a1 a2 a3 => ?_) hd.2 kt
  exact va_runS X hM ⟨g_callB hG X.2.2.2.2 hw hl ⟨hR.1, hR.2.1⟩, X.2.2.2.2 _ hst⟩ (g_preS hK a1 a2) rfl hn a3.1 rfl (lv_room hrest) hd.1 ⟨hR.2.2.1, hR.2.2.2⟩
theorem g_callSN (X : CallFix p m c cc nL s args Ts own) (hK : gK cl D ta base nw sa tabs s) (hG : gGood Ts) {index : Nat} {host : String} (hw : gMw Ts y bytes maxL ret n) (hl : Cond.methodLinkNest own index y host ∈ nw) (hst : Cond.static y ∈ Ts) (hn : As.length = n) (hR : f + 1 ≤ R.frames ∧ 8 + (maxL + 11) + lo ≤ R.locals ∧ cells ≤ R.cells ∧ slots ≤ R.slots) (hM : GC lay cl D ta base nw sa tabs Ts l y bytes maxL ret f lo As M post) {st0 : List Value} (hs0 : st0 = As.reverse ++ rest) (hrest : (rest.map fun v => v.category).sum ≤ 8) (hd : decode cc pc = .ok (.invokestatic index, 3) ∧ pc + 3 = pc')
    (kt : ∀ (r : Option Value) (M' : gMem), post r M' → GW lay cl D ta base p l e R s m args below meth c cells slots Q nL pc' L (r.toList ++ rest) M') : GW lay cl D ta base p l e R s m args below meth c cells slots Q nL pc L st0 M := by
  subst hs0
  refine g_after (a := As.toArray) (fun H locs ls a1 a2 a3 => ?_) hd.2 kt
  exact va_runSN X hM ⟨g_callN hG X.2.2.2.2 hw (hK.2.1 _ hl).2 ⟨hR.1, hR.2.1⟩, X.2.2.2.2 _ hst, trivial⟩ (g_preS hK a1 a2) rfl hn a3.1 rfl (lv_room hrest) hd.1 ⟨hR.2.2.1, hR.2.2.2⟩
theorem g_recv {k ci : Nat} {fs : List (Option Nat)} {q : vw_C} {H : Heap} (hK : gK cl D ta base nw sa tabs s) (hk : lay[k]? = some (.inr (ci, fs))) (hc : cl[ci]? = some q) (a1 : va_P D cl (gWd base ta M 0 lay) H) : ∃ cell : Cell, H[base + k]? = some cell ∧ cell.vm.isStatics = false ∧ s.vm.findClass q.1 = some cell.cls := va_recv hK.1 a1 hc (gWd_at hk)
/-- an instance method of cell k -/
theorem g_callV (X : CallFix p m c cc nL s args Ts own) (hK : gK cl D ta base nw sa tabs s) (hG : gGood Ts) {index k ci : Nat} {fs : List (Option Nat)} {q : vw_C} (hk : lay[k]? = some (.inr (ci, fs))) (hc : cl[ci]? = some q) (hw : gMw Ts y bytes maxL ret n) (hl : Cond.methodLink own index y ∈ Ts) (hi : Cond.instanceMethod y ∈ Ts) (hse : Cond.selects q.1 y y ∈ Ts) (hn : As.length = n) (hR : f + 1 ≤ R.frames ∧ 8 + (maxL + 11) + lo ≤ R.locals ∧ cells ≤ R.cells ∧ slots ≤ R.slots) (hM : GC lay cl D ta base nw sa tabs Ts l y bytes maxL ret f lo (.ref (base + k) :: As) M post) {st0 : List Value} (hs0 : st0 = As.reverse ++ .ref (base + k) :: rest) (hrest : (rest.map fun v => v.category).sum ≤ 8) (hd : decode cc pc = .ok (.invokevirtual index, 3) ∧ pc + 3 = pc')
    (kt : ∀ (r : Option Value) (M' : gMem), post r M' → GW lay cl D ta base p l e R s m args below meth c cells slots Q nL pc' L (r.toList ++ rest) M') : GW lay cl D ta base p l e R s m args below meth c cells slots Q nL pc L st0 M := by
  subst hs0
  refine g_after (a := (Value.ref (base + k) :: As).toArray) (fun H locs ls a1 a2 a3 => ?_) hd.2 kt
  exact va_runV X hM ⟨g_callB hG X.2.2.2.2 hw hl ⟨hR.1, hR.2.1⟩, X.2.2.2.2 _ hi, X.2.2.2.2 _ hse⟩ ⟨(g_preS hK a1 a2 (av := .ref (base + k) :: As)).1, g_recv hK hk hc a1, (g_preS hK a1 a2).2⟩ rfl hn a3.1 rfl (lv_room hrest) hd.1 ⟨hR.2.2.1, hR.2.2.2⟩
theorem g_callVN (X : CallFix p m c cc nL s args Ts own) (hK : gK cl D ta base nw sa tabs s) (hG : gGood Ts) {index k ci : Nat} {host : String} {fs : List (Option Nat)} {q : vw_C} (hk : lay[k]? = some (.inr (ci, fs))) (hc : cl[ci]? = some q) (hw : gMw Ts y bytes maxL ret n) (hl : Cond.methodLinkNest own index y host ∈ nw) (hi : Cond.instanceMethod y ∈ Ts) (hse : Cond.selects q.1 y y ∈ Ts) (hn : As.length = n) (hR : f + 1 ≤ R.frames ∧ 8 + (maxL + 11) + lo ≤ R.locals ∧ cells ≤ R.cells ∧ slots ≤ R.slots) (hM : GC lay cl D ta base nw sa tabs Ts l y bytes maxL ret f lo (.ref (base + k) :: As) M post) {st0 : List Value} (hs0 : st0 = As.reverse ++ .ref (base + k) :: rest) (hrest : (rest.map fun v => v.category).sum ≤ 8) (hd : decode cc pc = .ok (.invokevirtual index, 3) ∧ pc + 3 = pc')
    (kt : ∀ (r : Option Value) (M' : gMem), post r M' → GW lay cl D ta base p l e R s m args below meth c cells slots Q nL pc' L (r.toList ++ rest) M') : GW lay cl D ta base p l e R s m args below meth c cells slots Q nL pc L st0 M := by
  subst hs0
  refine g_after (a := (Value.ref (base + k) :: As).toArray) (fun H locs ls a1 a2 a3 => ?_) hd.2 kt
  exact va_runVN X hM ⟨g_callN hG X.2.2.2.2 hw (hK.2.1 _ hl).2 ⟨hR.1, hR.2.1⟩, X.2.2.2.2 _ hi, X.2.2.2.2 _ hse⟩ ⟨(g_preS hK a1 a2 (av := .ref (base + k) :: As)).1, g_recv hK hk hc a1, (g_preS hK a1 a2).2⟩ rfl hn a3.1 rfl (lv_room hrest) hd.1 ⟨hR.2.2.1, hR.2.2.2⟩
/-- a table: its reference, its numbers, how many -/
theorem g_gets (X : CallFix p m c cc nL s args Ts own) (hK : gK cl D ta base nw sa tabs s) {index j : Nat} {x : String × String × List Int32} (hj : tabs[j]? = some x) (hl : Cond.fieldLink own index x.1 x.2.1 "[I" ∈ Ts) (hd : decode cc pc = .ok (.getstatic index, 3) ∧ pc + 3 = pc') (kt : GW lay cl D ta base p l e R s m args below meth c cells slots Q nL pc' L (.ref (sa j) :: rest) M) : GW lay cl D ta base p l e R s m args below meth c cells slots Q nL pc L rest M := by
  obtain ⟨hd, rfl⟩ := hd
  intro H locs ls a1 a2 a3
  exact va_gets X.1 X.2.1 (hK.2.2.1 j x hj).1 a2 X.2.2.2.1 (X.2.2.2.2 _ hl) (fun _ h => h) hd (kt H locs ls a1 a2 a3)
theorem g_tald (X : CallFix p m c cc nL s args Ts own) (hK : gK cl D ta base nw sa tabs s) {j : Nat} {x : String × String × List Int32} (hj : tabs[j]? = some x) {i : Int32} {N : Nat} (hN : x.2.2.length = N) (hi : vp_in i N) (hd : decode cc pc = .ok (.iaload, 1) ∧ pc + 1 = pc') (kt : GW lay cl D ta base p l e R s m args below meth c cells slots Q nL pc' L (.int (x.2.2.getD i.toNatClampNeg 0) :: rest) M) : GW lay cl D ta base p l e R s m args below meth c cells slots Q nL pc L (.int i :: .ref (sa j) :: rest) M := by
  obtain ⟨hd, rfl⟩ := hd
  subst hN
  intro H locs ls a1 a2 a3
  exact va_ti X.1 X.2.1 (hK.2.2.1 j x hj).2 a2 hi rfl hd (kt H locs ls a1 a2 a3)
theorem g_tlen (X : CallFix p m c cc nL s args Ts own) (hK : gK cl D ta base nw sa tabs s) {j : Nat} {x : String × String × List Int32} (hj : tabs[j]? = some x) {v : Int32} (hv : Int32.ofNat x.2.2.length = v) (hd : decode cc pc = .ok (.arraylength, 1) ∧ pc + 1 = pc') (kt : GW lay cl D ta base p l e R s m args below meth c cells slots Q nL pc' L (.int v :: rest) M) : GW lay cl D ta base p l e R s m args below meth c cells slots Q nL pc L (.ref (sa j) :: rest) M := by
  obtain ⟨hd, rfl⟩ := hd
  intro H locs ls a1 a2 a3
  exact va_tlen X.1 X.2.1 (hK.2.2.1 j x hj).2 a2 hv hd (kt H locs ls a1 a2 a3)
end GC2
section GS
/-- a switch: keys and targets, in their order; otherwise dt -/
def gSw (G : Nat → Prop) (x : Int32) (dt : Nat) : List (Int32 × Nat) → Prop
  | [] => G dt
  | (a, t) :: r => (x = a → G t) ∧ (¬ x = a → gSw G x dt r)
def gSwOk (pc : Nat) : List (Int × Int) → List (Int32 × Nat) → Bool
  | [], [] => true
  | (k, o) :: r, (a, t) :: r' => decide (a.toInt = k) && decide ((pc : Int) + o = (t : Int)) && gSwOk pc r r'
  | _, _ => false
theorem gSw_look {G : Nat → Prop} {x : Int32} {dt pc : Nat} {d : Int} (hdt : (pc : Int) + d = (dt : Int)) : ∀ (ps : List (Int × Int)) (kts : List (Int32 × Nat)), gSwOk pc ps kts = true → gSw G x dt kts → ∃ tgt : Nat, (pc : Int) + Op.lookupswitch.offset ps d x.toInt = (tgt : Int) ∧ G tgt
  | [], [], _, h => ⟨dt, hdt, h⟩
  | [], (_, _) :: _, h, _ => by simp [gSwOk] at h
  | (_, _) :: _, [], h, _ => by simp [gSwOk] at h
  | (k, o) :: r, (a, t) :: r', h, hg => by
    simp only [gSwOk, Bool.and_eq_true, decide_eq_true_eq] at h
    obtain ⟨⟨h1, h2⟩, h3⟩ := h
    by_cases hx : x = a
    · refine ⟨t, ?_, hg.1 hx⟩
      rw [Op.lookupswitch.offset_cons, if_pos (by rw [hx, h1])]
      exact h2
    · rw [Op.lookupswitch.offset_cons, if_neg (fun q => hx (Int32.toInt_inj.mp (by rw [h1, q])))]
      exact gSw_look hdt r r' h3 (hg.2 hx)
def gTwOk (pc : Nat) : Int → List Int → List (Int32 × Nat) → Bool
  | _, [], [] => true
  | k, o :: r, (a, t) :: r' => decide (a.toInt = k) && decide ((pc : Int) + o = (t : Int)) && gTwOk pc (k + 1) r r'
  | _, _, _ => false
theorem gSw_table {G : Nat → Prop} {x : Int32} {dt pc : Nat} : ∀ (os : List Int) (kts : List (Int32 × Nat)) (lo : Int), gTwOk pc lo os kts = true → gSw G x dt kts → (∃ (o : Int) (t : Nat), ¬ x.toInt < lo ∧ os[(x.toInt - lo).toNat]? = some o ∧ (pc : Int) + o = (t : Int) ∧ G t) ∨ ((x.toInt < lo ∨ lo + os.length ≤ x.toInt) ∧ G dt)
  | [], [], lo, _, h => Or.inr ⟨by simp only [List.length_nil]; omega, h⟩
  | [], (_, _) :: _, lo, h, _ => by simp [gTwOk] at h
  | _ :: _, [], lo, h, _ => by simp [gTwOk] at h
  | o :: r, (a, t) :: r', lo, h, hg => by
    simp only [gTwOk, Bool.and_eq_true, decide_eq_true_eq] at h
    obtain ⟨⟨h1, h2⟩, h3⟩ := h
    by_cases hx : x = a
    · have hx2 : x.toInt = lo := by rw [hx, h1]
      refine Or.inl ⟨o, t, by omega, ?_, h2, hg.1 hx⟩
      rw [show (x.toInt - lo).toNat = 0 by omega]
      rfl
    · have hx2 : ¬ x.toInt = lo := fun q => hx (Int32.toInt_inj.mp (by rw [h1, q]))
      rcases gSw_table r r' (lo + 1) h3 (hg.2 hx) with ⟨o', t', b1, b2, b3, b4⟩ | ⟨b1, b2⟩
      · refine Or.inl ⟨o', t', by omega, ?_, b3, b4⟩
        rw [show (x.toInt - lo).toNat = (x.toInt - (lo + 1)).toNat + 1 by omega]
        exact b2
      · refine Or.inr ⟨?_, b2⟩
        simp only [List.length_cons]
        omega
variable {lay : List gDesc} {cl : List vw_C} {D : va_G} {ta : Nat → ClassId} {base : Nat} {p : Program} {l : Launch} {e : Env} {R : Room} {s : State} {m : MethodId} {args : Array Value} {below : List Frame} {meth : Method} {c : Code} {cells slots : Nat} {Q : State → Prop} {nL : Nat} {cc : ByteArray} {pc pc' : Nat} {L : List (Nat × Value)} {rest : List Value} {M : gMem} {Ts : List Cond} {own : String}
theorem g_lookup (X : CallFix p m c cc nL s args Ts own) {dflt : Int} {ps : Array (Int × Int)} {len dt : Nat} {x : Int32} (kts : List (Int32 × Nat)) (hd : decode cc pc = .ok (.lookupswitch dflt ps, len)) (hp : (ps.toList.zip (ps.toList.drop 1)).all (fun (a, next) => a.1 < next.1) = true) (hok : gSwOk pc ps.toList kts = true) (hdt : (pc : Int) + dflt = (dt : Int)) (kt : gSw (fun t => GW lay cl D ta base p l e R s m args below meth c cells slots Q nL t L rest M) x dt kts) : GW lay cl D ta base p l e R s m args below meth c cells slots Q nL pc L (.int x :: rest) M := by
  obtain ⟨tgt, h1, h2⟩ := gSw_look hdt ps.toList kts hok kt
  intro H locs ls a1 a2 a3
  exact lv_lookup X.1 X.2.1 hd hp rfl h1 (h2 H locs ls a1 a2 a3)
theorem g_table (X : CallFix p m c cc nL s args Ts own) {dflt lo hi : Int} {offs : Array Int} {len dt : Nat} {x : Int32} (kts : List (Int32 × Nat)) (hd : decode cc pc = .ok (.tableswitch dflt lo hi offs, len)) (hok : gTwOk pc lo offs.toList kts = true) (hh : lo + offs.toList.length = hi + 1) (hdt : (pc : Int) + dflt = (dt : Int)) (kt : gSw (fun t => GW lay cl D ta base p l e R s m args below meth c cells slots Q nL t L rest M) x dt kts) : GW lay cl D ta base p l e R s m args below meth c cells slots Q nL pc L (.int x :: rest) M := by
  intro H locs ls a1 a2 a3
  rcases gSw_table offs.toList kts lo hok kt with ⟨o, t, b1, b2, b3, b4⟩ | ⟨b1, b2⟩
  · have hlt := (List.getElem?_eq_some_iff.mp b2).1
    exact lv_tableIn X.1 X.2.1 hd b1 (by omega) (by rw [← Array.getElem?_toList]; exact b2) b3 (b4 H locs ls a1 a2 a3)
  · exact lv_tableOut X.1 X.2.1 hd (by omega) hdt (b2 H locs ls a1 a2 a3)
/-- System.arraycopy between two arrays of ints -/
theorem g_copyi (X : CallFix p m c cc nL s args Ts own) (hK : va_K D cl (gTys ta) s) {index k0 k1 n0 n1 : Nat} (hl : Cond.methodLink own index arraycopyName ∈ Ts) (hn : Cond.native arraycopyName ∈ Ts) (hs : Cond.static arraycopyName ∈ Ts) (hi : Cond.initialized "java/lang/System" ∈ Ts) (hk0 : lay[k0]? = some (.inl (0, n0))) (hk1 : lay[k1]? = some (.inl (0, n1))) {sp dp n : Int32} (h1 : ¬ sp < 0) (h2 : ¬ dp < 0) (h3 : ¬ n < 0) (h4 : sp.toNatClampNeg + n.toNatClampNeg ≤ n0) (h5 : dp.toNatClampNeg + n.toNatClampNeg ≤ n1) (hfr : 1 ≤ R.frames) (hlo : (rest.map fun v => v.category).sum + 18 ≤ R.locals) (hd : decode cc pc = .ok (.invokestatic index, 3) ∧ pc + 3 = pc')
    (kt : GW lay cl D ta base p l e R s m args below meth c cells slots Q nL pc' L rest (va_up M k1 (va_cpy (M k0) (M k1) sp.toNatClampNeg dp.toNatClampNeg n.toNatClampNeg))) : GW lay cl D ta base p l e R s m args below meth c cells slots Q nL pc L (.int n :: .int dp :: .ref (base + k1) :: .int sp :: .ref (base + k0) :: rest) M := by
  obtain ⟨hd, rfl⟩ := hd
  intro H locs ls a1 a2 a3
  refine va_copyi X.1 X.2.1 (X.2.2.1.trans a3.1.symm) X.2.2.2.1 (X.2.2.2.2 _ hl) (X.2.2.2.2 _ hn) (X.2.2.2.2 _ hs) (X.2.2.2.2 _ hi) hK a1 gWd_D a2 k0 k1 0 0 (gWd_at hk0) (gWd_at hk1) rfl rfl rfl h1 h2 h3 h4 h5 (fun i _ => rfl) hfr hlo hd (fun H1 locs1 b1 b2 b3 => ?_)
  rw [gWd_setA hk1] at b1
  exact kt H1 locs1 ls b1 b3 a3
/-- the same between two arrays of bytes -/
theorem g_copyb (X : CallFix p m c cc nL s args Ts own) (hK : va_K D cl (gTys ta) s) {index k0 k1 n0 n1 : Nat} (hl : Cond.methodLink own index arraycopyName ∈ Ts) (hn : Cond.native arraycopyName ∈ Ts) (hs : Cond.static arraycopyName ∈ Ts) (hi : Cond.initialized "java/lang/System" ∈ Ts) (hk0 : lay[k0]? = some (.inl (1, n0))) (hk1 : lay[k1]? = some (.inl (1, n1))) {sp dp n : Int32} (h1 : ¬ sp < 0) (h2 : ¬ dp < 0) (h3 : ¬ n < 0) (h4 : sp.toNatClampNeg + n.toNatClampNeg ≤ n0) (h5 : dp.toNatClampNeg + n.toNatClampNeg ≤ n1) (hfit : ∀ i, i < n.toNatClampNeg → fits .byte (.int (M k0 (sp.toNatClampNeg + i))) = true) (hfr : 1 ≤ R.frames) (hlo : (rest.map fun v => v.category).sum + 18 ≤ R.locals) (hd : decode cc pc = .ok (.invokestatic index, 3) ∧ pc + 3 = pc')
    (kt : GW lay cl D ta base p l e R s m args below meth c cells slots Q nL pc' L rest (va_up M k1 (va_cpy (M k0) (M k1) sp.toNatClampNeg dp.toNatClampNeg n.toNatClampNeg))) : GW lay cl D ta base p l e R s m args below meth c cells slots Q nL pc L (.int n :: .int dp :: .ref (base + k1) :: .int sp :: .ref (base + k0) :: rest) M := by
  obtain ⟨hd, rfl⟩ := hd
  intro H locs ls a1 a2 a3
  refine va_copyi X.1 X.2.1 (X.2.2.1.trans a3.1.symm) X.2.2.2.1 (X.2.2.2.2 _ hl) (X.2.2.2.2 _ hn) (X.2.2.2.2 _ hs) (X.2.2.2.2 _ hi) hK a1 gWd_D a2 k0 k1 1 1 (gWd_at hk0) (gWd_at hk1) rfl rfl rfl h1 h2 h3 h4 h5 hfit hfr hlo hd (fun H1 locs1 b1 b2 b3 => ?_)
  rw [gWd_setA hk1] at b1
  exact kt H1 locs1 ls b1 b3 a3
/-- Math.min -/
theorem g_mmin (X : CallFix p m c cc nL s args Ts own) {index : Nat} (hl : Cond.methodLink own index Lib.Math.min.name ∈ Ts) (hs : Cond.static Lib.Math.min.name ∈ Ts) (hi : Cond.initialized "java/lang/Math" ∈ Ts) (hc : Cond.code Lib.Math.min.name Lib.Math.min.code 2 (some .int) ∈ Ts) (hR : 1 ≤ R.frames ∧ cells ≤ R.cells ∧ slots ≤ R.slots) (hlo : (rest.map fun v => v.category).sum + 13 ≤ R.locals) {x y : Int32} (hd : decode cc pc = .ok (.invokestatic index, 3) ∧ pc + 3 = pc')
    (kt : GW lay cl D ta base p l e R s m args below meth c cells slots Q nL pc' L (.int (if y < x then y else x) :: rest) M) : GW lay cl D ta base p l e R s m args below meth c cells slots Q nL pc L (.int y :: .int x :: rest) M := by
  obtain ⟨hd, rfl⟩ := hd
  intro H locs ls a1 a2 a3
  exact va_mmin X.1 X.2.1 (X.2.2.1.trans a3.1.symm) X.2.2.2.1 (X.2.2.2.2 _ hl) (X.2.2.2.2 _ hs) (X.2.2.2.2 _ hi) (X.2.2.2.2 _ hc) hR.1 hlo hR.2.1 hR.2.2 hd (kt H locs ls a1 a2 a3)
end GS
section GX
variable {lay : List gDesc} {cl : List vw_C} {D : va_G} {ta : Nat → ClassId} {base : Nat} {nw : List Cond} {sa : Nat → Nat} {tabs : List (String × String × List Int32)} {p : Program} {l : Launch} {e : Env} {R : Room} {s : State} {m : MethodId} {args : Array Value} {below : List Frame} {meth : Method} {c : Code} {cells slots : Nat} {Q : State → Prop} {nL : Nat} {cc : ByteArray} {pc pc' pc2 : Nat} {L : List (Nat × Value)} {rest : List Value} {M : gMem} {Ts : List Cond} {own : String}
theorem gNw_of {U : State} (h : gK cl D ta base nw sa tabs U) : ∀ w ∈ nw, va_Nw w U := fun w hw => (h.2.1 w hw).2
theorem g_geti (X : CallFix p m c cc nL s args Ts own) (hK : va_K D cl (gTys ta) s) {index k ci j : Nat} {fs : List (Option Nat)} (hf : gFl cl Ts own index ci j) (hk : lay[k]? = some (.inr (ci, fs))) (hj : fs[j]? = some none) (hd : decode cc pc = .ok (.getfield index, 3) ∧ pc + 3 = pc') (kt : GW lay cl D ta base p l e R s m args below meth c cells slots Q nL pc' L (.int (M k j) :: rest) M) : GW lay cl D ta base p l e R s m args below meth c cells slots Q nL pc L (.ref (base + k) :: rest) M := g_getv X hK hf hk hj hd kt
theorem g_getr (X : CallFix p m c cc nL s args Ts own) (hK : va_K D cl (gTys ta) s) {index k ci j q : Nat} {fs : List (Option Nat)} (hf : gFl cl Ts own index ci j) (hk : lay[k]? = some (.inr (ci, fs))) (hj : fs[j]? = some (some q)) (hd : decode cc pc = .ok (.getfield index, 3) ∧ pc + 3 = pc') (kt : GW lay cl D ta base p l e R s m args below meth c cells slots Q nL pc' L (.ref (base + q) :: rest) M) : GW lay cl D ta base p l e R s m args below meth c cells slots Q nL pc L (.ref (base + k) :: rest) M := g_getv X hK hf hk hj hd kt
theorem g_getiN (X : CallFix p m c cc nL s args Ts own) (hK : va_K D cl (gTys ta) s) (hN : ∀ w ∈ nw, va_Nw w s) {index k ci j : Nat} {fs : List (Option Nat)} (hf : gFn cl Ts nw own index ci j) (hk : lay[k]? = some (.inr (ci, fs))) (hj : fs[j]? = some none) (hd : decode cc pc = .ok (.getfield index, 3) ∧ pc + 3 = pc') (kt : GW lay cl D ta base p l e R s m args below meth c cells slots Q nL pc' L (.int (M k j) :: rest) M) : GW lay cl D ta base p l e R s m args below meth c cells slots Q nL pc L (.ref (base + k) :: rest) M := g_getvN X hK hN hf hk hj hd kt
theorem g_getrN (X : CallFix p m c cc nL s args Ts own) (hK : va_K D cl (gTys ta) s) (hN : ∀ w ∈ nw, va_Nw w s) {index k ci j q : Nat} {fs : List (Option Nat)} (hf : gFn cl Ts nw own index ci j) (hk : lay[k]? = some (.inr (ci, fs))) (hj : fs[j]? = some (some q)) (hd : decode cc pc = .ok (.getfield index, 3) ∧ pc + 3 = pc') (kt : GW lay cl D ta base p l e R s m args below meth c cells slots Q nL pc' L (.ref (base + q) :: rest) M) : GW lay cl D ta base p l e R s m args below meth c cells slots Q nL pc L (.ref (base + k) :: rest) M := g_getvN X hK hN hf hk hj hd kt
theorem g_topi {x : Int32} (kt : ∀ y : Int32, y = x → GW lay cl D ta base p l e R s m args below meth c cells slots Q nL pc L (.int y :: rest) M) : GW lay cl D ta base p l e R s m args below meth c cells slots Q nL pc L (.int x :: rest) M := kt x rfl
theorem g_topl {x : Int64} (kt : ∀ y : Int64, y = x → GW lay cl D ta base p l e R s m args below meth c cells slots Q nL pc L (.long y :: rest) M) : GW lay cl D ta base p l e R s m args below meth c cells slots Q nL pc L (.long x :: rest) M := kt x rfl
theorem g_topM (kt : ∀ M' : gMem, M' = M → GW lay cl D ta base p l e R s m args below meth c cells slots Q nL pc L rest M') : GW lay cl D ta base p l e R s m args below meth c cells slots Q nL pc L rest M := kt M rfl
theorem g_args {L' : List (Nat × Value)} (h : L = L') (kt : GW lay cl D ta base p l e R s m args below meth c cells slots Q nL pc L' rest M) : GW lay cl D ta base p l e R s m args below meth c cells slots Q nL pc L rest M := h ▸ kt
theorem g_ldc (X : CallFix p m c cc nL s args Ts own) {index : Nat} {v : Int32} (hw : Cond.constant own index v ∈ Ts) (hd : decode cc pc = .ok (.ldc index, 2) ∧ pc + 2 = pc') (kt : GW lay cl D ta base p l e R s m args below meth c cells slots Q nL pc' L (.int v :: rest) M) : GW lay cl D ta base p l e R s m args below meth c cells slots Q nL pc L rest M := by
  obtain ⟨hd, rfl⟩ := hd
  exact fun H locs ls a1 a2 a3 => lv_ldc X.1 X.2.1 X.2.2.2.1 (X.2.2.2.2 _ hw) hd (kt H locs ls a1 a2 a3)
theorem g_ldc2 (X : CallFix p m c cc nL s args Ts own) {index : Nat} {v : Int64} (hw : Cond.constantLong own index v ∈ Ts) (hd : decode cc pc = .ok (.ldc2_w index, 3) ∧ pc + 3 = pc') (kt : GW lay cl D ta base p l e R s m args below meth c cells slots Q nL pc' L (.long v :: rest) M) : GW lay cl D ta base p l e R s m args below meth c cells slots Q nL pc L rest M := by
  obtain ⟨hd, rfl⟩ := hd
  exact fun H locs ls a1 a2 a3 => lv_ldc2 X.1 X.2.1 X.2.2.2.1 (X.2.2.2.2 _ hw) hd (kt H locs ls a1 a2 a3)
theorem g_getsN (X : CallFix p m c cc nL s args Ts own) (hK : gK cl D ta base nw sa tabs s) {index j : Nat} {x : String × String × List Int32} {host : String} (hj : tabs[j]? = some x) (hl : Cond.fieldLinkNest own index x.1 x.2.1 "[I" host ∈ nw) (hd : decode cc pc = .ok (.getstatic index, 3) ∧ pc + 3 = pc') (kt : GW lay cl D ta base p l e R s m args below meth c cells slots Q nL pc' L (.ref (sa j) :: rest) M) : GW lay cl D ta base p l e R s m args below meth c cells slots Q nL pc L rest M := by
  obtain ⟨hd, rfl⟩ := hd
  intro H locs ls a1 a2 a3
  exact va_getsN X.1 X.2.1 (hK.2.2.1 j x hj).1 a2 X.2.2.2.1 (va_Nw.use rfl (hK.2.1 _ hl).2) (fun _ h => h) hd (kt H locs ls a1 a2 a3)
theorem g_lif_eq (X : CallFix p m c cc nL s args Ts own) {x y : Int64} {off : Int} {tgt : Nat} (h1 : decode cc pc = .ok (.lcmp, 1) ∧ pc + 1 = pc') (h2 : decode cc pc' = .ok (.ifCond .eq off, 3) ∧ pc' + 3 = pc2 ∧ (pc' : Int) + off = (tgt : Int)) (kt : x = y → GW lay cl D ta base p l e R s m args below meth c cells slots Q nL tgt L rest M) (kf : ¬ x = y → GW lay cl D ta base p l e R s m args below meth c cells slots Q nL pc2 L rest M) : GW lay cl D ta base p l e R s m args below meth c cells slots Q nL pc L (.long y :: .long x :: rest) M :=
  g_lcmp X h1 (g_if_eq X h2 (fun z => kt ((lg_cmp_eq x y).mp z)) (fun z => kf (fun q => z ((lg_cmp_eq x y).mpr q))))
theorem g_lif_ne (X : CallFix p m c cc nL s args Ts own) {x y : Int64} {off : Int} {tgt : Nat} (h1 : decode cc pc = .ok (.lcmp, 1) ∧ pc + 1 = pc') (h2 : decode cc pc' = .ok (.ifCond .ne off, 3) ∧ pc' + 3 = pc2 ∧ (pc' : Int) + off = (tgt : Int)) (kt : ¬ x = y → GW lay cl D ta base p l e R s m args below meth c cells slots Q nL tgt L rest M) (kf : x = y → GW lay cl D ta base p l e R s m args below meth c cells slots Q nL pc2 L rest M) : GW lay cl D ta base p l e R s m args below meth c cells slots Q nL pc L (.long y :: .long x :: rest) M :=
  g_lcmp X h1 (g_if_ne X h2 (fun z => kt (fun q => z ((lg_cmp_eq x y).mpr q))) (fun z => kf ((lg_cmp_eq x y).mp z)))
theorem g_lif_lt (X : CallFix p m c cc nL s args Ts own) {x y : Int64} {off : Int} {tgt : Nat} (h1 : decode cc pc = .ok (.lcmp, 1) ∧ pc + 1 = pc') (h2 : decode cc pc' = .ok (.ifCond .lt off, 3) ∧ pc' + 3 = pc2 ∧ (pc' : Int) + off = (tgt : Int)) (kt : x < y → GW lay cl D ta base p l e R s m args below meth c cells slots Q nL tgt L rest M) (kf : ¬ x < y → GW lay cl D ta base p l e R s m args below meth c cells slots Q nL pc2 L rest M) : GW lay cl D ta base p l e R s m args below meth c cells slots Q nL pc L (.long y :: .long x :: rest) M :=
  g_lcmp X h1 (g_if_lt X h2 (fun z => kt ((lg_cmp_lt x y).mp z)) (fun z => kf (fun q => z ((lg_cmp_lt x y).mpr q))))
theorem g_lif_ge (X : CallFix p m c cc nL s args Ts own) {x y : Int64} {off : Int} {tgt : Nat} (h1 : decode cc pc = .ok (.lcmp, 1) ∧ pc + 1 = pc') (h2 : decode cc pc' = .ok (.ifCond .ge off, 3) ∧ pc' + 3 = pc2 ∧ (pc' : Int) + off = (tgt : Int)) (kt : y ≤ x → GW lay cl D ta base p l e R s m args below meth c cells slots Q nL tgt L rest M) (kf : ¬ y ≤ x → GW lay cl D ta base p l e R s m args below meth c cells slots Q nL pc2 L rest M) : GW lay cl D ta base p l e R s m args below meth c cells slots Q nL pc L (.long y :: .long x :: rest) M :=
  g_lcmp X h1 (g_if_ge X h2 (fun z => kt ((lg_cmp_ge x y).mp z)) (fun z => kf (fun q => z ((lg_cmp_ge x y).mpr q))))
theorem g_lif_gt (X : CallFix p m c cc nL s args Ts own) {x y : Int64} {off : Int} {tgt : Nat} (h1 : decode cc pc = .ok (.lcmp, 1) ∧ pc + 1 = pc') (h2 : decode cc pc' = .ok (.ifCond .gt off, 3) ∧ pc' + 3 = pc2 ∧ (pc' : Int) + off = (tgt : Int)) (kt : y < x → GW lay cl D ta base p l e R s m args below meth c cells slots Q nL tgt L rest M) (kf : ¬ y < x → GW lay cl D ta base p l e R s m args below meth c cells slots Q nL pc2 L rest M) : GW lay cl D ta base p l e R s m args below meth c cells slots Q nL pc L (.long y :: .long x :: rest) M :=
  g_lcmp X h1 (g_if_gt X h2 (fun z => kt ((lg_cmp_gt x y).mp z)) (fun z => kf (fun q => z ((lg_cmp_gt x y).mpr q))))
theorem g_lif_le (X : CallFix p m c cc nL s args Ts own) {x y : Int64} {off : Int} {tgt : Nat} (h1 : decode cc pc = .ok (.lcmp, 1) ∧ pc + 1 = pc') (h2 : decode cc pc' = .ok (.ifCond .le off, 3) ∧ pc' + 3 = pc2 ∧ (pc' : Int) + off = (tgt : Int)) (kt : x ≤ y → GW lay cl D ta base p l e R s m args below meth c cells slots Q nL tgt L rest M) (kf : ¬ x ≤ y → GW lay cl D ta base p l e R s m args below meth c cells slots Q nL pc2 L rest M) : GW lay cl D ta base p l e R s m args below meth c cells slots Q nL pc L (.long y :: .long x :: rest) M :=
  g_lcmp X h1 (g_if_le X h2 (fun z => kt ((lg_cmp_le x y).mp z)) (fun z => kf (fun q => z ((lg_cmp_le x y).mpr q))))
theorem gSw_cons {G : Nat → Prop} {x a : Int32} {dt t : Nat} {r : List (Int32 × Nat)} (h1 : x = a → G t) (h2 : ¬ x = a → gSw G x dt r) : gSw G x dt ((a, t) :: r) := ⟨h1, h2⟩
theorem gSw_nil {G : Nat → Prop} {x : Int32} {dt : Nat} (h : G dt) : gSw G x dt [] := h
/-- a boolean as an int -/
def bI (b : Bool) : Int32 := if b then 1 else 0
theorem bI_n (b : Bool) : narrow .boolean (.int (bI b)) = .int (bI b) := by cases b <;> decide
def gPi (post : Int32 → gMem → Prop) : Option Value → gMem → Prop := fun r M => ∃ x : Int32, r = some (.int x) ∧ post x M
def gPl (post : Int64 → gMem → Prop) : Option Value → gMem → Prop := fun r M => ∃ x : Int64, r = some (.long x) ∧ post x M
def gPz (post : Bool → gMem → Prop) : Option Value → gMem → Prop := fun r M => ∃ b : Bool, r = some (.int (bI b)) ∧ post b M
def gPv (post : gMem → Prop) : Option Value → gMem → Prop := fun r M => r = none ∧ post M
theorem gk_i {post : Int32 → gMem → Prop} (k : ∀ (r : Int32) (M : gMem), post r M → GW lay cl D ta base p l e R s m args below meth c cells slots Q nL pc L (.int r :: rest) M) : ∀ (r : Option Value) (M : gMem), gPi post r M → GW lay cl D ta base p l e R s m args below meth c cells slots Q nL pc L (r.toList ++ rest) M := fun _ M ⟨x, hx, h⟩ => by subst hx; exact k x M h
theorem gk_l {post : Int64 → gMem → Prop} (k : ∀ (r : Int64) (M : gMem), post r M → GW lay cl D ta base p l e R s m args below meth c cells slots Q nL pc L (.long r :: rest) M) : ∀ (r : Option Value) (M : gMem), gPl post r M → GW lay cl D ta base p l e R s m args below meth c cells slots Q nL pc L (r.toList ++ rest) M := fun _ M ⟨x, hx, h⟩ => by subst hx; exact k x M h
theorem gk_z {post : Bool → gMem → Prop} (k : ∀ (r : Bool) (M : gMem), post r M → GW lay cl D ta base p l e R s m args below meth c cells slots Q nL pc L (.int (bI r) :: rest) M) : ∀ (r : Option Value) (M : gMem), gPz post r M → GW lay cl D ta base p l e R s m args below meth c cells slots Q nL pc L (r.toList ++ rest) M := fun _ M ⟨x, hx, h⟩ => by subst hx; exact k x M h
theorem gk_v {post : gMem → Prop} (k : ∀ (M : gMem), post M → GW lay cl D ta base p l e R s m args below meth c cells slots Q nL pc L rest M) : ∀ (r : Option Value) (M : gMem), gPv post r M → GW lay cl D ta base p l e R s m args below meth c cells slots Q nL pc L (r.toList ++ rest) M := fun _ M ⟨hx, h⟩ => by subst hx; exact k M h
theorem g_zretE {post : Option Value → gMem → Prop} (X : CallFix p m c cc nL s args Ts own) (hr : meth.sig.returnType = some .boolean) (hlocks : meth.locks = false) {v : Int32} {b : Bool} (hb : v = bI b) (hd : decode cc pc = .ok (.ireturn, 1) ∧ pc + 1 = pc') (hp : post (some (.int (bI b))) M) : GW lay cl D ta base p l e R s m args below meth c cells slots (MQ below (gQ lay cl D ta base post) args s cells slots (fun q => base ≤ q)) nL pc L [.int v] M := by
  subst hb
  exact g_zret X hr hlocks (bI_n b) hd hp
theorem g_nret {post : Option Value → gMem → Prop} (X : CallFix p m c cc nL s args Ts own) {ty : FieldType} (hr : meth.sig.returnType = some ty) (hlocks : meth.locks = false) {v : Int32} (hn : narrow ty (.int v) = .int v) (hd : decode cc pc = .ok (.ireturn, 1) ∧ pc + 1 = pc') (hp : post (some (.int v)) M) : GW lay cl D ta base p l e R s m args below meth c cells slots (MQ below (gQ lay cl D ta base post) args s cells slots (fun q => base ≤ q)) nL pc L [.int v] M := by
  intro H locs ls a1 a2 a3
  exact W.zret (v := v) X.1 X.2.1 hr hn (fun t ht hW => ⟨_, M, rfl, hp, by rw [ht]; exact a1, a2.F ht⟩) a2.2.2 hd.1 hlocks
/-- String constants -/
def gPs (sa : Nat → Nat) (post : Nat → gMem → Prop) : Option Value → gMem → Prop := fun r M => ∃ k : Nat, r = some (.ref (sa (100 + k))) ∧ post k M
theorem gk_s {post : Nat → gMem → Prop} (k : ∀ (r : Nat) (M : gMem), post r M → GW lay cl D ta base p l e R s m args below meth c cells slots Q nL pc L (.ref (sa (100 + r)) :: rest) M) : ∀ (r : Option Value) (M : gMem), gPs sa post r M → GW lay cl D ta base p l e R s m args below meth c cells slots Q nL pc L (r.toList ++ rest) M := fun _ M ⟨x, hx, h⟩ => by subst hx; exact k x M h
theorem g_sret {post : Option Value → gMem → Prop} (X : CallFix p m c cc nL s args Ts own) (hr : meth.sig.returnType = some (.object "java/lang/String")) (hlocks : meth.locks = false) {k : Nat} (hd : decode cc pc = .ok (.areturn, 1) ∧ pc + 1 = pc') (hp : post (some (.ref (sa (100 + k)))) M) : GW lay cl D ta base p l e R s m args below meth c cells slots (MQ below (gQ lay cl D ta base post) args s cells slots (fun q => base ≤ q)) nL pc L [.ref (sa (100 + k))] M := by
  intro H locs ls a1 a2 a3
  exact W.aret (v := .ref (sa (100 + k))) X.1 X.2.1 hr (Or.inl ⟨_, rfl⟩) (Or.inr ⟨_, rfl⟩) (fun t ht hW => ⟨_, M, rfl, hp, by rw [ht]; exact a1, a2.F ht⟩) a2.2.2 hd.1 hlocks
theorem g_ldcs (X : CallFix p m c cc nL s args Ts own) (hK : gK cl D ta base nw sa tabs s) {k index : Nat} {tx : String} (hk : gSrefs[k]? = some (own, index, tx)) (hd : decode cc pc = .ok (.ldc index, 2) ∧ pc + 2 = pc') (kt : GW lay cl D ta base p l e R s m args below meth c cells slots Q nL pc' L (.ref (sa (100 + k)) :: rest) M) : GW lay cl D ta base p l e R s m args below meth c cells slots Q nL pc L rest M := by
  obtain ⟨hd, rfl⟩ := hd
  intro H locs ls a1 a2 a3
  exact va_ldcS X.1 X.2.1 X.2.2.2.1 (hK.2.2.2.2.1 k _ hk) hd (kt H locs ls a1 a2 a3)
/-- fields of a String constant; its bytes -/
theorem g_sval (X : CallFix p m c cc nL s args Ts own) (hK : gK cl D ta base nw sa tabs s) {k index : Nat} (hk : k < gSn) (hl : Cond.fieldLink own index "java/lang/String" "value" "[B" ∈ Ts) (hd : decode cc pc = .ok (.getfield index, 3) ∧ pc + 3 = pc') (kt : GW lay cl D ta base p l e R s m args below meth c cells slots Q nL pc' L (.ref (sa (200 + k)) :: rest) M) : GW lay cl D ta base p l e R s m args below meth c cells slots Q nL pc L (.ref (sa (100 + k)) :: rest) M := by
  obtain ⟨hd, rfl⟩ := hd
  intro H locs ls a1 a2 a3
  exact vk_getf X.1 X.2.1 (hK.2.2.2.1.1 k hk).2.2.1 a2 X.2.2.2.1 (X.2.2.2.2 _ hl) (fun _ h => h) hd (kt H locs ls a1 a2 a3)
theorem g_scod (X : CallFix p m c cc nL s args Ts own) (hK : gK cl D ta base nw sa tabs s) {k index : Nat} (hk : k < gSn) (hl : Cond.fieldLink own index "java/lang/String" "coder" "B" ∈ Ts) (hd : decode cc pc = .ok (.getfield index, 3) ∧ pc + 3 = pc') (kt : GW lay cl D ta base p l e R s m args below meth c cells slots Q nL pc' L (.int 0 :: rest) M) : GW lay cl D ta base p l e R s m args below meth c cells slots Q nL pc L (.ref (sa (100 + k)) :: rest) M := by
  obtain ⟨hd, rfl⟩ := hd
  intro H locs ls a1 a2 a3
  exact vk_getf X.1 X.2.1 (hK.2.2.2.1.1 k hk).2.1 a2 X.2.2.2.1 (X.2.2.2.2 _ hl) (fun _ h => h) hd (kt H locs ls a1 a2 a3)
theorem g_slen (X : CallFix p m c cc nL s args Ts own) (hK : gK cl D ta base nw sa tabs s) {k : Nat} (hk : k < gSn) (hd : decode cc pc = .ok (.arraylength, 1) ∧ pc + 1 = pc') (kt : GW lay cl D ta base p l e R s m args below meth c cells slots Q nL pc' L (.int (gSlen k) :: rest) M) : GW lay cl D ta base p l e R s m args below meth c cells slots Q nL pc L (.ref (sa (200 + k)) :: rest) M := by
  obtain ⟨hd, rfl⟩ := hd
  intro H locs ls a1 a2 a3
  exact va_tlen X.1 X.2.1 (hK.2.2.2.1.1 k hk).2.2.2 a2 rfl hd (kt H locs ls a1 a2 a3)
theorem g_sbyt (X : CallFix p m c cc nL s args Ts own) (hK : gK cl D ta base nw sa tabs s) {k : Nat} (hk : k < gSn) {i : Int32} (hi : vp_in i (gSl k)) (hd : decode cc pc = .ok (.baload, 1) ∧ pc + 1 = pc') (kt : GW lay cl D ta base p l e R s m args below meth c cells slots Q nL pc' L (.int ((gSbyts.getD k []).getD i.toNatClampNeg 0) :: rest) M) : GW lay cl D ta base p l e R s m args below meth c cells slots Q nL pc L (.int i :: .ref (sa (200 + k)) :: rest) M := by
  obtain ⟨hd, rfl⟩ := hd
  intro H locs ls a1 a2 a3
  exact va_tb X.1 X.2.1 (hK.2.2.2.1.1 k hk).2.2.2 a2 hi rfl hd (kt H locs ls a1 a2 a3)
/-- two statics of the JDK's -/
theorem g_compact (X : CallFix p m c cc nL s args Ts own) (hK : gK cl D ta base nw sa tabs s) {index : Nat} (hl : Cond.fieldLink own index "java/lang/String" "COMPACT_STRINGS" "Z" ∈ Ts) (hd : decode cc pc = .ok (.getstatic index, 3) ∧ pc + 3 = pc') (kt : GW lay cl D ta base p l e R s m args below meth c cells slots Q nL pc' L (.int 1 :: rest) M) : GW lay cl D ta base p l e R s m args below meth c cells slots Q nL pc L rest M := by
  obtain ⟨hd, rfl⟩ := hd
  intro H locs ls a1 a2 a3
  exact va_gets X.1 X.2.1 hK.2.2.2.2.2.1 a2 X.2.2.2.1 (X.2.2.2.2 _ hl) (fun _ h => h) hd (kt H locs ls a1 a2 a3)
theorem g_format (X : CallFix p m c cc nL s args Ts own) (hK : gK cl D ta base nw sa tabs s) {index : Nat} (hl : Cond.fieldLink own index "jdk/internal/util/Preconditions" "SIOOBE_FORMATTER" "Ljava/util/function/BiFunction;" ∈ Ts) (hd : decode cc pc = .ok (.getstatic index, 3) ∧ pc + 3 = pc') (kt : GW lay cl D ta base p l e R s m args below meth c cells slots Q nL pc' L (gSu sa :: rest) M) : GW lay cl D ta base p l e R s m args below meth c cells slots Q nL pc L rest M := by
  obtain ⟨hd, rfl⟩ := hd
  intro H locs ls a1 a2 a3
  exact va_gets X.1 X.2.1 hK.2.2.2.2.2.2 a2 X.2.2.2.1 (X.2.2.2.2 _ hl) (fun _ h => h) hd (kt H locs ls a1 a2 a3)
/-- an instance method of a String constant -/
theorem g_callK {y : MethodName} {bytes : ByteArray} {maxL n : Nat} {ret : Option FieldType} {f lo : Nat} {As : List Value} {post : Option Value → gMem → Prop} (X : CallFix p m c cc nL s args Ts own) (hK : gK cl D ta base nw sa tabs s) (hG : gGood Ts) {index k : Nat} (hk : k < gSn) (hw : gMw Ts y bytes maxL ret n) (hl : Cond.methodLink own index y ∈ Ts) (hi : Cond.instanceMethod y ∈ Ts) (hse : Cond.selects "java/lang/String" y y ∈ Ts) (hn : As.length = n) (hR : f + 1 ≤ R.frames ∧ 8 + (maxL + 11) + lo ≤ R.locals ∧ cells ≤ R.cells ∧ slots ≤ R.slots) (hM : GC lay cl D ta base nw sa tabs Ts l y bytes maxL ret f lo (.ref (sa (100 + k)) :: As) M post) {st0 : List Value} (hs0 : st0 = As.reverse ++ .ref (sa (100 + k)) :: rest) (hrest : (rest.map fun v => v.category).sum ≤ 8) (hd : decode cc pc = .ok (.invokevirtual index, 3) ∧ pc + 3 = pc')
    (kt : ∀ (r : Option Value) (M' : gMem), post r M' → GW lay cl D ta base p l e R s m args below meth c cells slots Q nL pc' L (r.toList ++ rest) M') : GW lay cl D ta base p l e R s m args below meth c cells slots Q nL pc L st0 M := by
  subst hs0
  refine g_after (a := (Value.ref (sa (100 + k)) :: As).toArray) (fun H locs ls a1 a2 a3 => ?_) hd.2 kt
  exact va_runV X hM ⟨g_callB hG X.2.2.2.2 hw hl ⟨hR.1, hR.2.1⟩, X.2.2.2.2 _ hi, X.2.2.2.2 _ hse⟩ ⟨(g_preS hK a1 a2 (av := .ref (sa (100 + k)) :: As)).1, vk_recv (adK := fun k => sa (100 + k)) (i := k) hK.2.2.2.1 hk a2, (g_preS hK a1 a2).2⟩ rfl hn a3.1 rfl (lv_room hrest) hd.1 ⟨hR.2.2.1, hR.2.2.2⟩
end GX
