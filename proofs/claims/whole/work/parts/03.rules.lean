section GR
variable {lay : List gDesc} {cl : List vw_C} {D : va_G} {ta : Nat → ClassId} {base : Nat} {p : Program} {l : Launch} {e : Env} {R : Room} {s : State} {m : MethodId} {args : Array Value} {below : List Frame} {meth : Method} {c : Code} {cells slots : Nat} {Q : State → Prop} {nL : Nat} {cc : ByteArray} {pc pc' : Nat} {L : List (Nat × Value)} {rest : List Value} {M : gMem} {Ts : List Cond} {own : String}
theorem g_iconst (X : CallFix p m c cc nL s args Ts own) {n : Int} {v : Int32} (hd : decode cc pc = .ok (.iconst n, 1) ∧ pc + 1 = pc') (hv : Int32.ofInt n = v) (kt : GW lay cl D ta base p l e R s m args below meth c cells slots Q nL pc' L (.int v :: rest) M) : GW lay cl D ta base p l e R s m args below meth c cells slots Q nL pc L (rest) M := by
  obtain ⟨hd1, rfl⟩ := hd
  exact fun H locs ls h1 h2 h3 => lv_iconst X.1 X.2.1 hd1 hv (kt H locs ls h1 h2 h3)
theorem g_bipush (X : CallFix p m c cc nL s args Ts own) {n : Int} {v : Int32} (hd : decode cc pc = .ok (.bipush n, 2) ∧ pc + 2 = pc') (hv : (Int8.ofInt n).toInt32 = v) (kt : GW lay cl D ta base p l e R s m args below meth c cells slots Q nL pc' L (.int v :: rest) M) : GW lay cl D ta base p l e R s m args below meth c cells slots Q nL pc L (rest) M := by
  obtain ⟨hd1, rfl⟩ := hd
  exact fun H locs ls h1 h2 h3 => lv_bipush X.1 X.2.1 hd1 hv (kt H locs ls h1 h2 h3)
theorem g_sipush (X : CallFix p m c cc nL s args Ts own) {n : Int} {v : Int32} (hd : decode cc pc = .ok (.sipush n, 3) ∧ pc + 3 = pc') (hv : (Int16.ofInt n).toInt32 = v) (kt : GW lay cl D ta base p l e R s m args below meth c cells slots Q nL pc' L (.int v :: rest) M) : GW lay cl D ta base p l e R s m args below meth c cells slots Q nL pc L (rest) M := by
  obtain ⟨hd1, rfl⟩ := hd
  exact fun H locs ls h1 h2 h3 => lv_sipush X.1 X.2.1 hd1 hv (kt H locs ls h1 h2 h3)
theorem g_lconst (X : CallFix p m c cc nL s args Ts own) {n : Fin 2} {v : Int64} (hd : decode cc pc = .ok (.lconst n, 1) ∧ pc + 1 = pc') (hv : Int64.ofNat (n : Nat) = v) (kt : GW lay cl D ta base p l e R s m args below meth c cells slots Q nL pc' L (.long v :: rest) M) : GW lay cl D ta base p l e R s m args below meth c cells slots Q nL pc L (rest) M := by
  obtain ⟨hd1, rfl⟩ := hd
  exact fun H locs ls h1 h2 h3 => lv_lconst X.1 X.2.1 hd1 hv (kt H locs ls h1 h2 h3)
theorem g_iload_n (X : CallFix p m c cc nL s args Ts own) {kk : Fin 4} {i : Nat} {x : Int32} (hd : decode cc pc = .ok (.iload_n kk, 1) ∧ pc + 1 = pc') (hi : (kk : Nat) = i) (q : Nat) (hq : L[q]? = some (i, .int x)) (kt : GW lay cl D ta base p l e R s m args below meth c cells slots Q nL pc' L (.int x :: rest) M) : GW lay cl D ta base p l e R s m args below meth c cells slots Q nL pc L (rest) M := by
  obtain ⟨hd1, rfl⟩ := hd
  exact fun H locs ls h1 h2 h3 => lv_iload_n X.1 X.2.1 hd1 hi (lv_at h3 q hq) (kt H locs ls h1 h2 h3)
theorem g_iload (X : CallFix p m c cc nL s args Ts own) {i : Nat} {x : Int32} (hd : decode cc pc = .ok (.iload i, 2) ∧ pc + 2 = pc') (q : Nat) (hq : L[q]? = some (i, .int x)) (kt : GW lay cl D ta base p l e R s m args below meth c cells slots Q nL pc' L (.int x :: rest) M) : GW lay cl D ta base p l e R s m args below meth c cells slots Q nL pc L (rest) M := by
  obtain ⟨hd1, rfl⟩ := hd
  exact fun H locs ls h1 h2 h3 => lv_iload X.1 X.2.1 hd1 (lv_at h3 q hq) (kt H locs ls h1 h2 h3)
theorem g_lload_n (X : CallFix p m c cc nL s args Ts own) {kk : Fin 4} {i : Nat} {x : Int64} (hd : decode cc pc = .ok (.lload_n kk, 1) ∧ pc + 1 = pc') (hi : (kk : Nat) = i) (q : Nat) (hq : L[q]? = some (i, .long x)) (kt : GW lay cl D ta base p l e R s m args below meth c cells slots Q nL pc' L (.long x :: rest) M) : GW lay cl D ta base p l e R s m args below meth c cells slots Q nL pc L (rest) M := by
  obtain ⟨hd1, rfl⟩ := hd
  exact fun H locs ls h1 h2 h3 => lv_lload_n X.1 X.2.1 hd1 hi (lv_at h3 q hq) (kt H locs ls h1 h2 h3)
theorem g_lload (X : CallFix p m c cc nL s args Ts own) {i : Nat} {x : Int64} (hd : decode cc pc = .ok (.lload i, 2) ∧ pc + 2 = pc') (q : Nat) (hq : L[q]? = some (i, .long x)) (kt : GW lay cl D ta base p l e R s m args below meth c cells slots Q nL pc' L (.long x :: rest) M) : GW lay cl D ta base p l e R s m args below meth c cells slots Q nL pc L (rest) M := by
  obtain ⟨hd1, rfl⟩ := hd
  exact fun H locs ls h1 h2 h3 => lv_lload X.1 X.2.1 hd1 (lv_at h3 q hq) (kt H locs ls h1 h2 h3)
theorem g_aload_n (X : CallFix p m c cc nL s args Ts own) {kk : Fin 4} {i : Nat} {x : Nat} (hd : decode cc pc = .ok (.aload_n kk, 1) ∧ pc + 1 = pc') (hi : (kk : Nat) = i) (q : Nat) (hq : L[q]? = some (i, .ref x)) (kt : GW lay cl D ta base p l e R s m args below meth c cells slots Q nL pc' L (.ref x :: rest) M) : GW lay cl D ta base p l e R s m args below meth c cells slots Q nL pc L (rest) M := by
  obtain ⟨hd1, rfl⟩ := hd
  exact fun H locs ls h1 h2 h3 => lv_aload_n X.1 X.2.1 hd1 hi (lv_at h3 q hq) (kt H locs ls h1 h2 h3)
theorem g_aload (X : CallFix p m c cc nL s args Ts own) {i : Nat} {x : Nat} (hd : decode cc pc = .ok (.aload i, 2) ∧ pc + 2 = pc') (q : Nat) (hq : L[q]? = some (i, .ref x)) (kt : GW lay cl D ta base p l e R s m args below meth c cells slots Q nL pc' L (.ref x :: rest) M) : GW lay cl D ta base p l e R s m args below meth c cells slots Q nL pc L (rest) M := by
  obtain ⟨hd1, rfl⟩ := hd
  exact fun H locs ls h1 h2 h3 => lv_aload X.1 X.2.1 hd1 (lv_at h3 q hq) (kt H locs ls h1 h2 h3)
theorem g_istore_n (X : CallFix p m c cc nL s args Ts own) {kk : Fin 4} {i : Nat} {x : Int32} {L' : List (Nat × Value)} (hd : decode cc pc = .ok (.istore_n kk, 1) ∧ pc + 1 = pc') (hi : (kk : Nat) = i) (hn : i < nL) (hl : (i, Value.int x) :: L.filter (fun q => !(q.1 == i) && !(q.1 + 1 == i && q.2.category == 2)) = L') (kt : GW lay cl D ta base p l e R s m args below meth c cells slots Q nL pc' L' rest M) : GW lay cl D ta base p l e R s m args below meth c cells slots Q nL pc L (.int x :: rest) M := by
  obtain ⟨hd1, rfl⟩ := hd
  exact fun H locs ls h1 h2 h3 => lv_istore_n X.1 X.2.1 hd1 hi h3 hn hl (fun ls' h5 => kt H locs ls' h1 h2 h5)
theorem g_istore (X : CallFix p m c cc nL s args Ts own) {i : Nat} {x : Int32} {L' : List (Nat × Value)} (hd : decode cc pc = .ok (.istore i, 2) ∧ pc + 2 = pc') (hn : i < nL) (hl : (i, Value.int x) :: L.filter (fun q => !(q.1 == i) && !(q.1 + 1 == i && q.2.category == 2)) = L') (kt : GW lay cl D ta base p l e R s m args below meth c cells slots Q nL pc' L' rest M) : GW lay cl D ta base p l e R s m args below meth c cells slots Q nL pc L (.int x :: rest) M := by
  obtain ⟨hd1, rfl⟩ := hd
  exact fun H locs ls h1 h2 h3 => lv_istore X.1 X.2.1 hd1 h3 hn hl (fun ls' h5 => kt H locs ls' h1 h2 h5)
theorem g_lstore_n (X : CallFix p m c cc nL s args Ts own) {kk : Fin 4} {i : Nat} {x : Int64} {L' : List (Nat × Value)} (hd : decode cc pc = .ok (.lstore_n kk, 1) ∧ pc + 1 = pc') (hi : (kk : Nat) = i) (hn : i + 1 < nL) (hl : (i, Value.long x) :: L.filter (fun q => !(q.1 == i) && (!(q.1 == i + 1) && !(q.1 + 1 == i && q.2.category == 2))) = L') (kt : GW lay cl D ta base p l e R s m args below meth c cells slots Q nL pc' L' rest M) : GW lay cl D ta base p l e R s m args below meth c cells slots Q nL pc L (.long x :: rest) M := by
  obtain ⟨hd1, rfl⟩ := hd
  exact fun H locs ls h1 h2 h3 => lv_lstore_n X.1 X.2.1 hd1 hi h3 hn hl (fun ls' h5 => kt H locs ls' h1 h2 h5)
theorem g_lstore (X : CallFix p m c cc nL s args Ts own) {i : Nat} {x : Int64} {L' : List (Nat × Value)} (hd : decode cc pc = .ok (.lstore i, 2) ∧ pc + 2 = pc') (hn : i + 1 < nL) (hl : (i, Value.long x) :: L.filter (fun q => !(q.1 == i) && (!(q.1 == i + 1) && !(q.1 + 1 == i && q.2.category == 2))) = L') (kt : GW lay cl D ta base p l e R s m args below meth c cells slots Q nL pc' L' rest M) : GW lay cl D ta base p l e R s m args below meth c cells slots Q nL pc L (.long x :: rest) M := by
  obtain ⟨hd1, rfl⟩ := hd
  exact fun H locs ls h1 h2 h3 => lv_lstore X.1 X.2.1 hd1 h3 hn hl (fun ls' h5 => kt H locs ls' h1 h2 h5)
theorem g_astore_n (X : CallFix p m c cc nL s args Ts own) {kk : Fin 4} {i : Nat} {x : Nat} {L' : List (Nat × Value)} (hd : decode cc pc = .ok (.astore_n kk, 1) ∧ pc + 1 = pc') (hi : (kk : Nat) = i) (hn : i < nL) (hl : (i, Value.ref x) :: L.filter (fun q => !(q.1 == i) && !(q.1 + 1 == i && q.2.category == 2)) = L') (kt : GW lay cl D ta base p l e R s m args below meth c cells slots Q nL pc' L' rest M) : GW lay cl D ta base p l e R s m args below meth c cells slots Q nL pc L (.ref x :: rest) M := by
  obtain ⟨hd1, rfl⟩ := hd
  exact fun H locs ls h1 h2 h3 => lv_astore_n X.1 X.2.1 hd1 hi h3 hn hl (fun ls' h5 => kt H locs ls' h1 h2 h5)
theorem g_astore (X : CallFix p m c cc nL s args Ts own) {i : Nat} {x : Nat} {L' : List (Nat × Value)} (hd : decode cc pc = .ok (.astore i, 2) ∧ pc + 2 = pc') (hn : i < nL) (hl : (i, Value.ref x) :: L.filter (fun q => !(q.1 == i) && !(q.1 + 1 == i && q.2.category == 2)) = L') (kt : GW lay cl D ta base p l e R s m args below meth c cells slots Q nL pc' L' rest M) : GW lay cl D ta base p l e R s m args below meth c cells slots Q nL pc L (.ref x :: rest) M := by
  obtain ⟨hd1, rfl⟩ := hd
  exact fun H locs ls h1 h2 h3 => lv_astore X.1 X.2.1 hd1 h3 hn hl (fun ls' h5 => kt H locs ls' h1 h2 h5)
theorem g_iinc (X : CallFix p m c cc nL s args Ts own) {i k : Nat} {n : Int} {x v : Int32} {L' : List (Nat × Value)} (hd : decode cc pc = .ok (.iinc i n, 3) ∧ pc + 3 = pc') (hk : L[k]? = some (i, .int x)) (hv : x + Int32.ofInt n = v) (hn : i < nL) (hl : (i, Value.int v) :: L.filter (fun q => !(q.1 == i) && !(q.1 + 1 == i && q.2.category == 2)) = L') (kt : GW lay cl D ta base p l e R s m args below meth c cells slots Q nL pc' L' rest M) : GW lay cl D ta base p l e R s m args below meth c cells slots Q nL pc L rest M := by
  obtain ⟨hd1, rfl⟩ := hd
  exact fun H locs ls h1 h2 h3 => lv_iinc X.1 X.2.1 hd1 h3 hk hv hn hl (fun ls' h5 => kt H locs ls' h1 h2 h5)
theorem g_iadd (X : CallFix p m c cc nL s args Ts own) {x y : Int32} (hd : decode cc pc = .ok (.iadd, 1) ∧ pc + 1 = pc') (kt : GW lay cl D ta base p l e R s m args below meth c cells slots Q nL pc' L (.int (x + y) :: rest) M) : GW lay cl D ta base p l e R s m args below meth c cells slots Q nL pc L (.int y :: .int x :: rest) M := by
  obtain ⟨hd1, rfl⟩ := hd
  exact fun H locs ls h1 h2 h3 => lv_iadd X.1 X.2.1 hd1 (kt H locs ls h1 h2 h3)
theorem g_isub (X : CallFix p m c cc nL s args Ts own) {x y : Int32} (hd : decode cc pc = .ok (.isub, 1) ∧ pc + 1 = pc') (kt : GW lay cl D ta base p l e R s m args below meth c cells slots Q nL pc' L (.int (x - y) :: rest) M) : GW lay cl D ta base p l e R s m args below meth c cells slots Q nL pc L (.int y :: .int x :: rest) M := by
  obtain ⟨hd1, rfl⟩ := hd
  exact fun H locs ls h1 h2 h3 => lv_isub X.1 X.2.1 hd1 (kt H locs ls h1 h2 h3)
theorem g_imul (X : CallFix p m c cc nL s args Ts own) {x y : Int32} (hd : decode cc pc = .ok (.imul, 1) ∧ pc + 1 = pc') (kt : GW lay cl D ta base p l e R s m args below meth c cells slots Q nL pc' L (.int (x * y) :: rest) M) : GW lay cl D ta base p l e R s m args below meth c cells slots Q nL pc L (.int y :: .int x :: rest) M := by
  obtain ⟨hd1, rfl⟩ := hd
  exact fun H locs ls h1 h2 h3 => lv_imul X.1 X.2.1 hd1 (kt H locs ls h1 h2 h3)
theorem g_iand (X : CallFix p m c cc nL s args Ts own) {x y : Int32} (hd : decode cc pc = .ok (.iand, 1) ∧ pc + 1 = pc') (kt : GW lay cl D ta base p l e R s m args below meth c cells slots Q nL pc' L (.int (x &&& y) :: rest) M) : GW lay cl D ta base p l e R s m args below meth c cells slots Q nL pc L (.int y :: .int x :: rest) M := by
  obtain ⟨hd1, rfl⟩ := hd
  exact fun H locs ls h1 h2 h3 => lv_iand X.1 X.2.1 hd1 (kt H locs ls h1 h2 h3)
theorem g_ior (X : CallFix p m c cc nL s args Ts own) {x y : Int32} (hd : decode cc pc = .ok (.ior, 1) ∧ pc + 1 = pc') (kt : GW lay cl D ta base p l e R s m args below meth c cells slots Q nL pc' L (.int (x ||| y) :: rest) M) : GW lay cl D ta base p l e R s m args below meth c cells slots Q nL pc L (.int y :: .int x :: rest) M := by
  obtain ⟨hd1, rfl⟩ := hd
  exact fun H locs ls h1 h2 h3 => lv_ior X.1 X.2.1 hd1 (kt H locs ls h1 h2 h3)
theorem g_ixor (X : CallFix p m c cc nL s args Ts own) {x y : Int32} (hd : decode cc pc = .ok (.ixor, 1) ∧ pc + 1 = pc') (kt : GW lay cl D ta base p l e R s m args below meth c cells slots Q nL pc' L (.int (x ^^^ y) :: rest) M) : GW lay cl D ta base p l e R s m args below meth c cells slots Q nL pc L (.int y :: .int x :: rest) M := by
  obtain ⟨hd1, rfl⟩ := hd
  exact fun H locs ls h1 h2 h3 => lv_ixor X.1 X.2.1 hd1 (kt H locs ls h1 h2 h3)
theorem g_idiv (X : CallFix p m c cc nL s args Ts own) {x y : Int32} (hd : decode cc pc = .ok (.idiv, 1) ∧ pc + 1 = pc') (hne : ¬ y = 0) (kt : GW lay cl D ta base p l e R s m args below meth c cells slots Q nL pc' L (.int (x / y) :: rest) M) : GW lay cl D ta base p l e R s m args below meth c cells slots Q nL pc L (.int y :: .int x :: rest) M := by
  obtain ⟨hd1, rfl⟩ := hd
  exact fun H locs ls h1 h2 h3 => lv_idiv X.1 X.2.1 hd1 hne (kt H locs ls h1 h2 h3)
theorem g_irem (X : CallFix p m c cc nL s args Ts own) {x y : Int32} (hd : decode cc pc = .ok (.irem, 1) ∧ pc + 1 = pc') (hne : ¬ y = 0) (kt : GW lay cl D ta base p l e R s m args below meth c cells slots Q nL pc' L (.int (x - x / y * y) :: rest) M) : GW lay cl D ta base p l e R s m args below meth c cells slots Q nL pc L (.int y :: .int x :: rest) M := by
  obtain ⟨hd1, rfl⟩ := hd
  exact fun H locs ls h1 h2 h3 => lv_irem X.1 X.2.1 hd1 hne (kt H locs ls h1 h2 h3)
theorem g_ineg (X : CallFix p m c cc nL s args Ts own) {x : Int32} (hd : decode cc pc = .ok (.ineg, 1) ∧ pc + 1 = pc') (kt : GW lay cl D ta base p l e R s m args below meth c cells slots Q nL pc' L (.int (-x) :: rest) M) : GW lay cl D ta base p l e R s m args below meth c cells slots Q nL pc L (.int x :: rest) M := by
  obtain ⟨hd1, rfl⟩ := hd
  exact fun H locs ls h1 h2 h3 => lv_ineg X.1 X.2.1 hd1 (kt H locs ls h1 h2 h3)
theorem g_ladd (X : CallFix p m c cc nL s args Ts own) {x y : Int64} (hd : decode cc pc = .ok (.ladd, 1) ∧ pc + 1 = pc') (kt : GW lay cl D ta base p l e R s m args below meth c cells slots Q nL pc' L (.long (x + y) :: rest) M) : GW lay cl D ta base p l e R s m args below meth c cells slots Q nL pc L (.long y :: .long x :: rest) M := by
  obtain ⟨hd1, rfl⟩ := hd
  exact fun H locs ls h1 h2 h3 => lv_ladd X.1 X.2.1 hd1 (kt H locs ls h1 h2 h3)
theorem g_lsub (X : CallFix p m c cc nL s args Ts own) {x y : Int64} (hd : decode cc pc = .ok (.lsub, 1) ∧ pc + 1 = pc') (kt : GW lay cl D ta base p l e R s m args below meth c cells slots Q nL pc' L (.long (x - y) :: rest) M) : GW lay cl D ta base p l e R s m args below meth c cells slots Q nL pc L (.long y :: .long x :: rest) M := by
  obtain ⟨hd1, rfl⟩ := hd
  exact fun H locs ls h1 h2 h3 => lv_lsub X.1 X.2.1 hd1 (kt H locs ls h1 h2 h3)
theorem g_lmul (X : CallFix p m c cc nL s args Ts own) {x y : Int64} (hd : decode cc pc = .ok (.lmul, 1) ∧ pc + 1 = pc') (kt : GW lay cl D ta base p l e R s m args below meth c cells slots Q nL pc' L (.long (x * y) :: rest) M) : GW lay cl D ta base p l e R s m args below meth c cells slots Q nL pc L (.long y :: .long x :: rest) M := by
  obtain ⟨hd1, rfl⟩ := hd
  exact fun H locs ls h1 h2 h3 => lv_lmul X.1 X.2.1 hd1 (kt H locs ls h1 h2 h3)
theorem g_land (X : CallFix p m c cc nL s args Ts own) {x y : Int64} (hd : decode cc pc = .ok (.land, 1) ∧ pc + 1 = pc') (kt : GW lay cl D ta base p l e R s m args below meth c cells slots Q nL pc' L (.long (x &&& y) :: rest) M) : GW lay cl D ta base p l e R s m args below meth c cells slots Q nL pc L (.long y :: .long x :: rest) M := by
  obtain ⟨hd1, rfl⟩ := hd
  exact fun H locs ls h1 h2 h3 => lv_land X.1 X.2.1 hd1 (kt H locs ls h1 h2 h3)
theorem g_lor (X : CallFix p m c cc nL s args Ts own) {x y : Int64} (hd : decode cc pc = .ok (.lor, 1) ∧ pc + 1 = pc') (kt : GW lay cl D ta base p l e R s m args below meth c cells slots Q nL pc' L (.long (x ||| y) :: rest) M) : GW lay cl D ta base p l e R s m args below meth c cells slots Q nL pc L (.long y :: .long x :: rest) M := by
  obtain ⟨hd1, rfl⟩ := hd
  exact fun H locs ls h1 h2 h3 => lv_lor X.1 X.2.1 hd1 (kt H locs ls h1 h2 h3)
theorem g_lxor (X : CallFix p m c cc nL s args Ts own) {x y : Int64} (hd : decode cc pc = .ok (.lxor, 1) ∧ pc + 1 = pc') (kt : GW lay cl D ta base p l e R s m args below meth c cells slots Q nL pc' L (.long (x ^^^ y) :: rest) M) : GW lay cl D ta base p l e R s m args below meth c cells slots Q nL pc L (.long y :: .long x :: rest) M := by
  obtain ⟨hd1, rfl⟩ := hd
  exact fun H locs ls h1 h2 h3 => lv_lxor X.1 X.2.1 hd1 (kt H locs ls h1 h2 h3)
theorem g_ldiv (X : CallFix p m c cc nL s args Ts own) {x y : Int64} (hd : decode cc pc = .ok (.ldiv, 1) ∧ pc + 1 = pc') (hne : ¬ y = 0) (kt : GW lay cl D ta base p l e R s m args below meth c cells slots Q nL pc' L (.long (x / y) :: rest) M) : GW lay cl D ta base p l e R s m args below meth c cells slots Q nL pc L (.long y :: .long x :: rest) M := by
  obtain ⟨hd1, rfl⟩ := hd
  exact fun H locs ls h1 h2 h3 => lv_ldiv X.1 X.2.1 hd1 hne (kt H locs ls h1 h2 h3)
theorem g_lrem (X : CallFix p m c cc nL s args Ts own) {x y : Int64} (hd : decode cc pc = .ok (.lrem, 1) ∧ pc + 1 = pc') (hne : ¬ y = 0) (kt : GW lay cl D ta base p l e R s m args below meth c cells slots Q nL pc' L (.long (x - x / y * y) :: rest) M) : GW lay cl D ta base p l e R s m args below meth c cells slots Q nL pc L (.long y :: .long x :: rest) M := by
  obtain ⟨hd1, rfl⟩ := hd
  exact fun H locs ls h1 h2 h3 => lv_lrem X.1 X.2.1 hd1 hne (kt H locs ls h1 h2 h3)
theorem g_lneg (X : CallFix p m c cc nL s args Ts own) {x : Int64} (hd : decode cc pc = .ok (.lneg, 1) ∧ pc + 1 = pc') (kt : GW lay cl D ta base p l e R s m args below meth c cells slots Q nL pc' L (.long (-x) :: rest) M) : GW lay cl D ta base p l e R s m args below meth c cells slots Q nL pc L (.long x :: rest) M := by
  obtain ⟨hd1, rfl⟩ := hd
  exact fun H locs ls h1 h2 h3 => lv_lneg X.1 X.2.1 hd1 (kt H locs ls h1 h2 h3)
theorem g_ishl (X : CallFix p m c cc nL s args Ts own) {x y : Int32} (hd : decode cc pc = .ok (.ishl, 1) ∧ pc + 1 = pc') (kt : GW lay cl D ta base p l e R s m args below meth c cells slots Q nL pc' L (.int (x <<< (y &&& 31)) :: rest) M) : GW lay cl D ta base p l e R s m args below meth c cells slots Q nL pc L (.int y :: .int x :: rest) M := by
  obtain ⟨hd1, rfl⟩ := hd
  exact fun H locs ls h1 h2 h3 => lv_ishl X.1 X.2.1 hd1 (kt H locs ls h1 h2 h3)
theorem g_ishr (X : CallFix p m c cc nL s args Ts own) {x y : Int32} (hd : decode cc pc = .ok (.ishr, 1) ∧ pc + 1 = pc') (kt : GW lay cl D ta base p l e R s m args below meth c cells slots Q nL pc' L (.int (x >>> (y &&& 31)) :: rest) M) : GW lay cl D ta base p l e R s m args below meth c cells slots Q nL pc L (.int y :: .int x :: rest) M := by
  obtain ⟨hd1, rfl⟩ := hd
  exact fun H locs ls h1 h2 h3 => lv_ishr X.1 X.2.1 hd1 (kt H locs ls h1 h2 h3)
theorem g_i2l (X : CallFix p m c cc nL s args Ts own) {x : Int32} {v : Int64} (hd : decode cc pc = .ok (.i2l, 1) ∧ pc + 1 = pc') (hv : x.toInt64 = v) (kt : GW lay cl D ta base p l e R s m args below meth c cells slots Q nL pc' L (.long v :: rest) M) : GW lay cl D ta base p l e R s m args below meth c cells slots Q nL pc L (.int x :: rest) M := by
  obtain ⟨hd1, rfl⟩ := hd
  exact fun H locs ls h1 h2 h3 => lv_i2l X.1 X.2.1 hd1 hv (kt H locs ls h1 h2 h3)
theorem g_l2i (X : CallFix p m c cc nL s args Ts own) {x : Int64} {v : Int32} (hd : decode cc pc = .ok (.l2i, 1) ∧ pc + 1 = pc') (hv : x.toInt32 = v) (kt : GW lay cl D ta base p l e R s m args below meth c cells slots Q nL pc' L (.int v :: rest) M) : GW lay cl D ta base p l e R s m args below meth c cells slots Q nL pc L (.long x :: rest) M := by
  obtain ⟨hd1, rfl⟩ := hd
  exact fun H locs ls h1 h2 h3 => lv_l2i X.1 X.2.1 hd1 hv (kt H locs ls h1 h2 h3)
theorem g_i2b (X : CallFix p m c cc nL s args Ts own) {x : Int32} {v : Int32} (hd : decode cc pc = .ok (.i2b, 1) ∧ pc + 1 = pc') (hv : x.toInt8.toInt32 = v) (kt : GW lay cl D ta base p l e R s m args below meth c cells slots Q nL pc' L (.int v :: rest) M) : GW lay cl D ta base p l e R s m args below meth c cells slots Q nL pc L (.int x :: rest) M := by
  obtain ⟨hd1, rfl⟩ := hd
  exact fun H locs ls h1 h2 h3 => lv_i2b X.1 X.2.1 hd1 hv (kt H locs ls h1 h2 h3)
theorem g_i2s (X : CallFix p m c cc nL s args Ts own) {x : Int32} {v : Int32} (hd : decode cc pc = .ok (.i2s, 1) ∧ pc + 1 = pc') (hv : x.toInt16.toInt32 = v) (kt : GW lay cl D ta base p l e R s m args below meth c cells slots Q nL pc' L (.int v :: rest) M) : GW lay cl D ta base p l e R s m args below meth c cells slots Q nL pc L (.int x :: rest) M := by
  obtain ⟨hd1, rfl⟩ := hd
  exact fun H locs ls h1 h2 h3 => lv_i2s X.1 X.2.1 hd1 hv (kt H locs ls h1 h2 h3)
theorem g_i2c (X : CallFix p m c cc nL s args Ts own) {x : Int32} {v : Int32} (hd : decode cc pc = .ok (.i2c, 1) ∧ pc + 1 = pc') (hv : (x.toUInt32 % 65536).toInt32 = v) (kt : GW lay cl D ta base p l e R s m args below meth c cells slots Q nL pc' L (.int v :: rest) M) : GW lay cl D ta base p l e R s m args below meth c cells slots Q nL pc L (.int x :: rest) M := by
  obtain ⟨hd1, rfl⟩ := hd
  exact fun H locs ls h1 h2 h3 => lv_i2c X.1 X.2.1 hd1 hv (kt H locs ls h1 h2 h3)
theorem g_iushr (X : CallFix p m c cc nL s args Ts own) {x y v : Int32} (hd : decode cc pc = .ok (.iushr, 1) ∧ pc + 1 = pc') (hv : (x.toUInt32 >>> (y.toUInt32 &&& Int32.toUInt32 31)).toInt32 = v) (kt : GW lay cl D ta base p l e R s m args below meth c cells slots Q nL pc' L (.int v :: rest) M) : GW lay cl D ta base p l e R s m args below meth c cells slots Q nL pc L (.int y :: .int x :: rest) M := by
  obtain ⟨hd1, rfl⟩ := hd
  exact fun H locs ls h1 h2 h3 => lv_iushr X.1 X.2.1 hd1 hv (kt H locs ls h1 h2 h3)
theorem g_lushr (X : CallFix p m c cc nL s args Ts own) {x v : Int64} {y : Int32} (hd : decode cc pc = .ok (.lushr, 1) ∧ pc + 1 = pc') (hv : (x.toUInt64 >>> (y.toInt64.toUInt64 &&& Int64.toUInt64 63)).toInt64 = v) (kt : GW lay cl D ta base p l e R s m args below meth c cells slots Q nL pc' L (.long v :: rest) M) : GW lay cl D ta base p l e R s m args below meth c cells slots Q nL pc L (.int y :: .long x :: rest) M := by
  obtain ⟨hd1, rfl⟩ := hd
  exact fun H locs ls h1 h2 h3 => lv_lushr X.1 X.2.1 hd1 hv (kt H locs ls h1 h2 h3)
theorem g_lshl (X : CallFix p m c cc nL s args Ts own) {x v : Int64} {y : Int32} (hd : decode cc pc = .ok (.lshl, 1) ∧ pc + 1 = pc') (hv : x <<< (y.toInt64 &&& 63) = v) (kt : GW lay cl D ta base p l e R s m args below meth c cells slots Q nL pc' L (.long v :: rest) M) : GW lay cl D ta base p l e R s m args below meth c cells slots Q nL pc L (.int y :: .long x :: rest) M := by
  obtain ⟨hd1, rfl⟩ := hd
  exact fun H locs ls h1 h2 h3 => lv_lshl X.1 X.2.1 hd1 hv (kt H locs ls h1 h2 h3)
theorem g_lshr (X : CallFix p m c cc nL s args Ts own) {x v : Int64} {y : Int32} (hd : decode cc pc = .ok (.lshr, 1) ∧ pc + 1 = pc') (hv : x >>> (y.toInt64 &&& 63) = v) (kt : GW lay cl D ta base p l e R s m args below meth c cells slots Q nL pc' L (.long v :: rest) M) : GW lay cl D ta base p l e R s m args below meth c cells slots Q nL pc L (.int y :: .long x :: rest) M := by
  obtain ⟨hd1, rfl⟩ := hd
  exact fun H locs ls h1 h2 h3 => lv_lshr X.1 X.2.1 hd1 hv (kt H locs ls h1 h2 h3)
theorem g_dup (X : CallFix p m c cc nL s args Ts own) {va : Value} (hd : decode cc pc = .ok (.dup, 1) ∧ pc + 1 = pc') (hva : va.category = 1) (kt : GW lay cl D ta base p l e R s m args below meth c cells slots Q nL pc' L (va :: va :: rest) M) : GW lay cl D ta base p l e R s m args below meth c cells slots Q nL pc L (va :: rest) M := by
  obtain ⟨hd1, rfl⟩ := hd
  exact fun H locs ls h1 h2 h3 => lv_dup X.1 X.2.1 hd1 hva (kt H locs ls h1 h2 h3)
theorem g_pop (X : CallFix p m c cc nL s args Ts own) {va : Value} (hd : decode cc pc = .ok (.pop, 1) ∧ pc + 1 = pc') (hva : va.category = 1) (kt : GW lay cl D ta base p l e R s m args below meth c cells slots Q nL pc' L (rest) M) : GW lay cl D ta base p l e R s m args below meth c cells slots Q nL pc L (va :: rest) M := by
  obtain ⟨hd1, rfl⟩ := hd
  exact fun H locs ls h1 h2 h3 => lv_pop X.1 X.2.1 hd1 hva (kt H locs ls h1 h2 h3)
theorem g_dup_x1 (X : CallFix p m c cc nL s args Ts own) {va vb : Value} (hd : decode cc pc = .ok (.dup_x1, 1) ∧ pc + 1 = pc') (hva : va.category = 1) (hvb : vb.category = 1) (kt : GW lay cl D ta base p l e R s m args below meth c cells slots Q nL pc' L (va :: vb :: va :: rest) M) : GW lay cl D ta base p l e R s m args below meth c cells slots Q nL pc L (va :: vb :: rest) M := by
  obtain ⟨hd1, rfl⟩ := hd
  exact fun H locs ls h1 h2 h3 => lv_dup_x1 X.1 X.2.1 hd1 hva hvb (kt H locs ls h1 h2 h3)
theorem g_dup_x2 (X : CallFix p m c cc nL s args Ts own) {va vb vd : Value} (hd : decode cc pc = .ok (.dup_x2, 1) ∧ pc + 1 = pc') (hva : va.category = 1) (hvb : vb.category = 1) (hvd : vd.category = 1) (kt : GW lay cl D ta base p l e R s m args below meth c cells slots Q nL pc' L (va :: vb :: vd :: va :: rest) M) : GW lay cl D ta base p l e R s m args below meth c cells slots Q nL pc L (va :: vb :: vd :: rest) M := by
  obtain ⟨hd1, rfl⟩ := hd
  exact fun H locs ls h1 h2 h3 => lv_dup_x2 X.1 X.2.1 hd1 hva hvb hvd (kt H locs ls h1 h2 h3)
theorem g_dup2_11 (X : CallFix p m c cc nL s args Ts own) {va vb : Value} (hd : decode cc pc = .ok (.dup2, 1) ∧ pc + 1 = pc') (hva : va.category = 1) (hvb : vb.category = 1) (kt : GW lay cl D ta base p l e R s m args below meth c cells slots Q nL pc' L (va :: vb :: va :: vb :: rest) M) : GW lay cl D ta base p l e R s m args below meth c cells slots Q nL pc L (va :: vb :: rest) M := by
  obtain ⟨hd1, rfl⟩ := hd
  exact fun H locs ls h1 h2 h3 => lv_dup2_11 X.1 X.2.1 hd1 hva hvb (kt H locs ls h1 h2 h3)
theorem g_dup2_2 (X : CallFix p m c cc nL s args Ts own) {va : Value} (hd : decode cc pc = .ok (.dup2, 1) ∧ pc + 1 = pc') (hva : va.category = 2) (kt : GW lay cl D ta base p l e R s m args below meth c cells slots Q nL pc' L (va :: va :: rest) M) : GW lay cl D ta base p l e R s m args below meth c cells slots Q nL pc L (va :: rest) M := by
  obtain ⟨hd1, rfl⟩ := hd
  exact fun H locs ls h1 h2 h3 => lv_dup2_2 X.1 X.2.1 hd1 hva (kt H locs ls h1 h2 h3)
theorem g_pop2_2 (X : CallFix p m c cc nL s args Ts own) {va : Value} (hd : decode cc pc = .ok (.pop2, 1) ∧ pc + 1 = pc') (hva : va.category = 2) (kt : GW lay cl D ta base p l e R s m args below meth c cells slots Q nL pc' L (rest) M) : GW lay cl D ta base p l e R s m args below meth c cells slots Q nL pc L (va :: rest) M := by
  obtain ⟨hd1, rfl⟩ := hd
  exact fun H locs ls h1 h2 h3 => lv_pop2_2 X.1 X.2.1 hd1 hva (kt H locs ls h1 h2 h3)
theorem g_if_eq (X : CallFix p m c cc nL s args Ts own) {x : Int32} {off : Int} {tgt : Nat} (hd : decode cc pc = .ok (.ifCond .eq off, 3) ∧ pc + 3 = pc' ∧ (pc : Int) + off = (tgt : Int)) (kt : x = 0 → GW lay cl D ta base p l e R s m args below meth c cells slots Q nL tgt L rest M) (kf : ¬ x = 0 → GW lay cl D ta base p l e R s m args below meth c cells slots Q nL pc' L rest M) : GW lay cl D ta base p l e R s m args below meth c cells slots Q nL pc L (.int x :: rest) M := by
  obtain ⟨hd1, rfl, hd2⟩ := hd
  exact fun H locs ls h1 h2 h3 => lv_if_eq X.1 X.2.1 hd1 hd2 (fun z => kt z H locs ls h1 h2 h3) (fun z => kf z H locs ls h1 h2 h3)
theorem g_icmp_eq (X : CallFix p m c cc nL s args Ts own) {x y : Int32} {off : Int} {tgt : Nat} (hd : decode cc pc = .ok (.if_icmp .eq off, 3) ∧ pc + 3 = pc' ∧ (pc : Int) + off = (tgt : Int)) (kt : x = y → GW lay cl D ta base p l e R s m args below meth c cells slots Q nL tgt L rest M) (kf : ¬ x = y → GW lay cl D ta base p l e R s m args below meth c cells slots Q nL pc' L rest M) : GW lay cl D ta base p l e R s m args below meth c cells slots Q nL pc L (.int y :: .int x :: rest) M := by
  obtain ⟨hd1, rfl, hd2⟩ := hd
  exact fun H locs ls h1 h2 h3 => lv_icmp_eq X.1 X.2.1 hd1 hd2 (fun z => kt z H locs ls h1 h2 h3) (fun z => kf z H locs ls h1 h2 h3)
theorem g_if_ne (X : CallFix p m c cc nL s args Ts own) {x : Int32} {off : Int} {tgt : Nat} (hd : decode cc pc = .ok (.ifCond .ne off, 3) ∧ pc + 3 = pc' ∧ (pc : Int) + off = (tgt : Int)) (kt : ¬ x = 0 → GW lay cl D ta base p l e R s m args below meth c cells slots Q nL tgt L rest M) (kf : x = 0 → GW lay cl D ta base p l e R s m args below meth c cells slots Q nL pc' L rest M) : GW lay cl D ta base p l e R s m args below meth c cells slots Q nL pc L (.int x :: rest) M := by
  obtain ⟨hd1, rfl, hd2⟩ := hd
  exact fun H locs ls h1 h2 h3 => lv_if_ne X.1 X.2.1 hd1 hd2 (fun z => kt z H locs ls h1 h2 h3) (fun z => kf z H locs ls h1 h2 h3)
theorem g_icmp_ne (X : CallFix p m c cc nL s args Ts own) {x y : Int32} {off : Int} {tgt : Nat} (hd : decode cc pc = .ok (.if_icmp .ne off, 3) ∧ pc + 3 = pc' ∧ (pc : Int) + off = (tgt : Int)) (kt : ¬ x = y → GW lay cl D ta base p l e R s m args below meth c cells slots Q nL tgt L rest M) (kf : x = y → GW lay cl D ta base p l e R s m args below meth c cells slots Q nL pc' L rest M) : GW lay cl D ta base p l e R s m args below meth c cells slots Q nL pc L (.int y :: .int x :: rest) M := by
  obtain ⟨hd1, rfl, hd2⟩ := hd
  exact fun H locs ls h1 h2 h3 => lv_icmp_ne X.1 X.2.1 hd1 hd2 (fun z => kt z H locs ls h1 h2 h3) (fun z => kf z H locs ls h1 h2 h3)
theorem g_if_lt (X : CallFix p m c cc nL s args Ts own) {x : Int32} {off : Int} {tgt : Nat} (hd : decode cc pc = .ok (.ifCond .lt off, 3) ∧ pc + 3 = pc' ∧ (pc : Int) + off = (tgt : Int)) (kt : x < 0 → GW lay cl D ta base p l e R s m args below meth c cells slots Q nL tgt L rest M) (kf : ¬ x < 0 → GW lay cl D ta base p l e R s m args below meth c cells slots Q nL pc' L rest M) : GW lay cl D ta base p l e R s m args below meth c cells slots Q nL pc L (.int x :: rest) M := by
  obtain ⟨hd1, rfl, hd2⟩ := hd
  exact fun H locs ls h1 h2 h3 => lv_if_lt X.1 X.2.1 hd1 hd2 (fun z => kt z H locs ls h1 h2 h3) (fun z => kf z H locs ls h1 h2 h3)
theorem g_icmp_lt (X : CallFix p m c cc nL s args Ts own) {x y : Int32} {off : Int} {tgt : Nat} (hd : decode cc pc = .ok (.if_icmp .lt off, 3) ∧ pc + 3 = pc' ∧ (pc : Int) + off = (tgt : Int)) (kt : x < y → GW lay cl D ta base p l e R s m args below meth c cells slots Q nL tgt L rest M) (kf : ¬ x < y → GW lay cl D ta base p l e R s m args below meth c cells slots Q nL pc' L rest M) : GW lay cl D ta base p l e R s m args below meth c cells slots Q nL pc L (.int y :: .int x :: rest) M := by
  obtain ⟨hd1, rfl, hd2⟩ := hd
  exact fun H locs ls h1 h2 h3 => lv_icmp_lt X.1 X.2.1 hd1 hd2 (fun z => kt z H locs ls h1 h2 h3) (fun z => kf z H locs ls h1 h2 h3)
theorem g_if_ge (X : CallFix p m c cc nL s args Ts own) {x : Int32} {off : Int} {tgt : Nat} (hd : decode cc pc = .ok (.ifCond .ge off, 3) ∧ pc + 3 = pc' ∧ (pc : Int) + off = (tgt : Int)) (kt : 0 ≤ x → GW lay cl D ta base p l e R s m args below meth c cells slots Q nL tgt L rest M) (kf : ¬ 0 ≤ x → GW lay cl D ta base p l e R s m args below meth c cells slots Q nL pc' L rest M) : GW lay cl D ta base p l e R s m args below meth c cells slots Q nL pc L (.int x :: rest) M := by
  obtain ⟨hd1, rfl, hd2⟩ := hd
  exact fun H locs ls h1 h2 h3 => lv_if_ge X.1 X.2.1 hd1 hd2 (fun z => kt z H locs ls h1 h2 h3) (fun z => kf z H locs ls h1 h2 h3)
theorem g_icmp_ge (X : CallFix p m c cc nL s args Ts own) {x y : Int32} {off : Int} {tgt : Nat} (hd : decode cc pc = .ok (.if_icmp .ge off, 3) ∧ pc + 3 = pc' ∧ (pc : Int) + off = (tgt : Int)) (kt : y ≤ x → GW lay cl D ta base p l e R s m args below meth c cells slots Q nL tgt L rest M) (kf : ¬ y ≤ x → GW lay cl D ta base p l e R s m args below meth c cells slots Q nL pc' L rest M) : GW lay cl D ta base p l e R s m args below meth c cells slots Q nL pc L (.int y :: .int x :: rest) M := by
  obtain ⟨hd1, rfl, hd2⟩ := hd
  exact fun H locs ls h1 h2 h3 => lv_icmp_ge X.1 X.2.1 hd1 hd2 (fun z => kt z H locs ls h1 h2 h3) (fun z => kf z H locs ls h1 h2 h3)
theorem g_if_gt (X : CallFix p m c cc nL s args Ts own) {x : Int32} {off : Int} {tgt : Nat} (hd : decode cc pc = .ok (.ifCond .gt off, 3) ∧ pc + 3 = pc' ∧ (pc : Int) + off = (tgt : Int)) (kt : 0 < x → GW lay cl D ta base p l e R s m args below meth c cells slots Q nL tgt L rest M) (kf : ¬ 0 < x → GW lay cl D ta base p l e R s m args below meth c cells slots Q nL pc' L rest M) : GW lay cl D ta base p l e R s m args below meth c cells slots Q nL pc L (.int x :: rest) M := by
  obtain ⟨hd1, rfl, hd2⟩ := hd
  exact fun H locs ls h1 h2 h3 => lv_if_gt X.1 X.2.1 hd1 hd2 (fun z => kt z H locs ls h1 h2 h3) (fun z => kf z H locs ls h1 h2 h3)
theorem g_icmp_gt (X : CallFix p m c cc nL s args Ts own) {x y : Int32} {off : Int} {tgt : Nat} (hd : decode cc pc = .ok (.if_icmp .gt off, 3) ∧ pc + 3 = pc' ∧ (pc : Int) + off = (tgt : Int)) (kt : y < x → GW lay cl D ta base p l e R s m args below meth c cells slots Q nL tgt L rest M) (kf : ¬ y < x → GW lay cl D ta base p l e R s m args below meth c cells slots Q nL pc' L rest M) : GW lay cl D ta base p l e R s m args below meth c cells slots Q nL pc L (.int y :: .int x :: rest) M := by
  obtain ⟨hd1, rfl, hd2⟩ := hd
  exact fun H locs ls h1 h2 h3 => lv_icmp_gt X.1 X.2.1 hd1 hd2 (fun z => kt z H locs ls h1 h2 h3) (fun z => kf z H locs ls h1 h2 h3)
theorem g_if_le (X : CallFix p m c cc nL s args Ts own) {x : Int32} {off : Int} {tgt : Nat} (hd : decode cc pc = .ok (.ifCond .le off, 3) ∧ pc + 3 = pc' ∧ (pc : Int) + off = (tgt : Int)) (kt : x ≤ 0 → GW lay cl D ta base p l e R s m args below meth c cells slots Q nL tgt L rest M) (kf : ¬ x ≤ 0 → GW lay cl D ta base p l e R s m args below meth c cells slots Q nL pc' L rest M) : GW lay cl D ta base p l e R s m args below meth c cells slots Q nL pc L (.int x :: rest) M := by
  obtain ⟨hd1, rfl, hd2⟩ := hd
  exact fun H locs ls h1 h2 h3 => lv_if_le X.1 X.2.1 hd1 hd2 (fun z => kt z H locs ls h1 h2 h3) (fun z => kf z H locs ls h1 h2 h3)
theorem g_icmp_le (X : CallFix p m c cc nL s args Ts own) {x y : Int32} {off : Int} {tgt : Nat} (hd : decode cc pc = .ok (.if_icmp .le off, 3) ∧ pc + 3 = pc' ∧ (pc : Int) + off = (tgt : Int)) (kt : x ≤ y → GW lay cl D ta base p l e R s m args below meth c cells slots Q nL tgt L rest M) (kf : ¬ x ≤ y → GW lay cl D ta base p l e R s m args below meth c cells slots Q nL pc' L rest M) : GW lay cl D ta base p l e R s m args below meth c cells slots Q nL pc L (.int y :: .int x :: rest) M := by
  obtain ⟨hd1, rfl, hd2⟩ := hd
  exact fun H locs ls h1 h2 h3 => lv_icmp_le X.1 X.2.1 hd1 hd2 (fun z => kt z H locs ls h1 h2 h3) (fun z => kf z H locs ls h1 h2 h3)
theorem g_goto (X : CallFix p m c cc nL s args Ts own) {off : Int} {tgt : Nat} (hd : decode cc pc = .ok (.goto off, 3) ∧ pc + 3 = pc' ∧ (pc : Int) + off = (tgt : Int)) (kt : GW lay cl D ta base p l e R s m args below meth c cells slots Q nL tgt L rest M) : GW lay cl D ta base p l e R s m args below meth c cells slots Q nL pc L rest M := by
  obtain ⟨hd1, rfl, hd2⟩ := hd
  exact fun H locs ls h1 h2 h3 => lv_goto X.1 X.2.1 hd1 hd2 (kt H locs ls h1 h2 h3)
end GR
