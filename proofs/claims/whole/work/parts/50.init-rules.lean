/-! The world while it is made: fields may be null yet; the cells lie one behind the other from base on. -/
abbrev hDesc : Type := (Nat × Nat) ⊕ (Nat × List (Option (Option Nat)))
def hRef (base : Nat) (f : Nat → Int32) (j : Nat) : Option (Option Nat) → Value
  | none => .int (f j)
  | some none => .null
  | some (some q) => .ref (base + q)
def hFld (base : Nat) (f : Nat → Int32) : Nat → List (Option (Option Nat)) → List Value
  | _, [] => []
  | j, o :: r => hRef base f j o :: hFld base f (j + 1) r
def hE (base : Nat) (ta : Nat → ClassId) (f : Nat → Int32) : hDesc → va_E
  | .inl (t, n) => .inl (ta t, n, .inl f)
  | .inr (ci, fs) => .inr (ci, hFld base f 0 fs)
def hWd (base : Nat) (ta : Nat → ClassId) (M : gMem) : Nat → List hDesc → va_W
  | _, [] => []
  | k, d :: r => (base + k, hE base ta (M k) d) :: hWd base ta M (k + 1) r
theorem hWd_get {base : Nat} {ta : Nat → ClassId} {M : gMem} : ∀ (lay : List hDesc) (k i : Nat), (hWd base ta M k lay)[i]? = (lay[i]?).map (fun d => (base + (k + i), hE base ta (M (k + i)) d))
  | [], k, i => by simp [hWd]
  | d :: r, k, 0 => by simp [hWd]
  | d :: r, k, i + 1 => by
    have h := hWd_get (base := base) (ta := ta) (M := M) r (k + 1) i
    rw [show k + (i + 1) = k + 1 + i by omega]
    simpa [hWd] using h
theorem hFld_get {base : Nat} {f : Nat → Int32} : ∀ (fs : List (Option (Option Nat))) (j i : Nat), (hFld base f j fs)[i]? = (fs[i]?).map (fun o => hRef base f (j + i) o)
  | [], j, i => by simp [hFld]
  | o :: r, j, 0 => by simp [hFld]
  | o :: r, j, i + 1 => by
    have h := hFld_get (base := base) (f := f) r (j + 1) i
    rw [show j + (i + 1) = j + 1 + i by omega]
    simpa [hFld] using h
theorem hWd_len {base : Nat} {ta : Nat → ClassId} {M : gMem} : ∀ (lay : List hDesc) (k : Nat), (hWd base ta M k lay).length = lay.length
  | [], k => rfl
  | d :: r, k => by simp [hWd, hWd_len r (k + 1)]
theorem hWd_at {base : Nat} {ta : Nat → ClassId} {M : gMem} {lay : List hDesc} {k : Nat} {d : hDesc} (h : lay[k]? = some d) : (hWd base ta M 0 lay)[k]? = some (base + k, hE base ta (M k) d) := by
  rw [hWd_get, h]
  simp
theorem hWd_D {base : Nat} {ta : Nat → ClassId} {M : gMem} {lay : List hDesc} : va_D (fun q => base ≤ q) (hWd base ta M 0 lay) := by
  refine ⟨fun i j x y hi hj hxy => ?_, fun k x hk => ?_⟩
  · rw [hWd_get] at hi hj
    obtain ⟨d1, h1, rfl⟩ := Option.map_eq_some_iff.mp hi
    obtain ⟨d2, h2, rfl⟩ := Option.map_eq_some_iff.mp hj
    have h3 : base + (0 + i) = base + (0 + j) := hxy
    omega
  · rw [hWd_get] at hk
    obtain ⟨d1, h1, rfl⟩ := Option.map_eq_some_iff.mp hk
    show base ≤ base + (0 + k)
    omega
/-- one more cell -/
theorem hWd_push {base : Nat} {ta : Nat → ClassId} {M : gMem} {lay : List hDesc} {d : hDesc} {k : Nat} {f : Nat → Int32} (hk : lay.length = k) : hWd base ta M 0 lay ++ [(base + k, hE base ta f d)] = hWd base ta (va_up M k f) 0 (lay ++ [d]) := by
  subst hk
  apply List.ext_getElem?
  intro i
  rw [hWd_get]
  by_cases hi : i < lay.length
  · rw [List.getElem?_append_left (by rw [hWd_len]; exact hi), List.getElem?_append_left hi, hWd_get]
    have : va_up M lay.length f (0 + i) = M (0 + i) := by
      rw [Nat.zero_add]
      exact va_up_ne M f (by omega)
    rw [this]
  · rw [List.getElem?_append_right (by rw [hWd_len]; omega), List.getElem?_append_right (by omega), hWd_len]
    by_cases hj : i = lay.length
    · subst hj
      simp [va_up]
    · have h1 : i - lay.length ≠ 0 := by omega
      obtain ⟨n, hn⟩ := Nat.exists_eq_succ_of_ne_zero h1
      rw [hn]
      simp
theorem hWd_setA {base : Nat} {ta : Nat → ClassId} {M : gMem} {lay : List hDesc} {k t n : Nat} {g : Nat → Int32} (h : lay[k]? = some (.inl (t, n))) : (hWd base ta M 0 lay).set k (base + k, .inl (ta t, n, .inl g)) = hWd base ta (va_up M k g) 0 lay := by
  apply List.ext_getElem?
  intro i
  have hl : k < (hWd base ta M 0 lay).length := by
    rw [hWd_len]
    exact (List.getElem?_eq_some_iff.mp h).1
  by_cases hi : k = i
  · subst hi
    rw [List.getElem?_set_self hl, hWd_at h]
    simp [hE, va_up]
  · rw [List.getElem?_set_ne hi, hWd_get, hWd_get]
    have : va_up M k g (0 + i) = M (0 + i) := by
      rw [Nat.zero_add]
      exact va_up_ne M g (fun q => hi q.symm)
    rw [this]
/-- a field of an object: an int, or a reference -/
theorem hWd_setF {base : Nat} {ta : Nat → ClassId} {M : gMem} {lay : List hDesc} {k ci j : Nat} {fs : List (Option (Option Nat))} {o : Option (Option Nat)} {x : Int32} (h : lay[k]? = some (.inr (ci, fs))) (hj : j < fs.length) : (hWd base ta M 0 lay).set k (base + k, .inr (ci, (hFld base (M k) 0 fs).set j (hRef base (upd (M k) j x) j o))) = hWd base ta (va_up M k (upd (M k) j x)) 0 (lay.set k (.inr (ci, fs.set j o))) := by
  apply List.ext_getElem?
  intro i
  have hl0 : k < lay.length := (List.getElem?_eq_some_iff.mp h).1
  have hl : k < (hWd base ta M 0 lay).length := by
    rw [hWd_len]
    exact hl0
  by_cases hi : k = i
  · subst hi
    have key : (hFld base (M k) 0 fs).set j (hRef base (upd (M k) j x) j o) = hFld base (upd (M k) j x) 0 (fs.set j o) := by
      apply List.ext_getElem?
      intro q
      have hlf : j < (hFld base (M k) 0 fs).length := by
        have h1 : (hFld base (M k) 0 fs)[j]? = some (hRef base (M k) (0 + j) (fs[j])) := by
          rw [hFld_get, List.getElem?_eq_getElem hj]
          rfl
        exact (List.getElem?_eq_some_iff.mp h1).1
      by_cases hq : j = q
      · subst hq
        rw [List.getElem?_set_self hlf, hFld_get, List.getElem?_set_self hj]
        simp
      · rw [List.getElem?_set_ne hq, hFld_get, hFld_get, List.getElem?_set_ne hq]
        cases hfq : fs[q]? with
        | none => rfl
        | some z =>
          cases z with
          | none =>
            have : ¬ q = j := fun w => hq w.symm
            simp [hRef, upd, this]
          | some z => cases z <;> simp [hRef]
    rw [List.getElem?_set_self hl, hWd_get, List.getElem?_set_self hl0, key]
    simp only [Option.map_some, Nat.zero_add, hE, va_up_self]
  · rw [List.getElem?_set_ne hi, hWd_get, hWd_get, List.getElem?_set_ne hi]
    have : va_up M k (upd (M k) j x) (0 + i) = M (0 + i) := by
      rw [Nat.zero_add]
      exact va_up_ne M _ (fun q => hi q.symm)
    rw [this]
def mpN (M : gMem) (k : Nat) : gMem := va_up M k (fun _ => 0)
def mpF (M : gMem) (k j : Nat) (x : Int32) : gMem := va_up M k (upd (M k) j x)
def GA (lay : List hDesc) (cl : List vw_C) (D : va_G) (ta : Nat → ClassId) (base : Nat) (p : Program) (l : Launch) (e : Env) (R : Room) (s : State) (m : MethodId) (args : Array Value) (below : List Frame) (meth : Method) (c : Code) (cells slots : Nat) (Q : State → Prop) (nL : Nat) (pc : Nat) (L : List (Nat × Value)) (S : List Value) (M : gMem) : Prop :=
  ∀ (H : Heap) (locs : List Loc) (ls : Array Slot), H.size = base + lay.length → va_P D cl (hWd base ta M 0 lay) H → va_S (fun q => base ≤ q) s.heap H locs → lv_has ls nL L → W p l e R s m args below meth c H locs cells slots Q (F0 m pc ls S)
section GAR
variable {lay : List hDesc} {cl : List vw_C} {D : va_G} {ta : Nat → ClassId} {base : Nat} {nw : List Cond} {sa : Nat → Nat} {tabs : List (String × String × List Int32)} {p : Program} {l : Launch} {e : Env} {R : Room} {s : State} {m : MethodId} {args : Array Value} {below : List Frame} {meth : Method} {c : Code} {cells slots : Nat} {Q : State → Prop} {nL : Nat} {cc : ByteArray} {pc pc' : Nat} {L : List (Nat × Value)} {rest : List Value} {M : gMem} {Ts : List Cond} {own : String}
theorem a_iconst (X : CallFix p m c cc nL s args Ts own) {n : Int} {v : Int32} (hd : decode cc pc = .ok (.iconst n, 1) ∧ pc + 1 = pc') (hv : Int32.ofInt n = v) (kt : GA lay cl D ta base p l e R s m args below meth c cells slots Q nL pc' L (.int v :: rest) M) : GA lay cl D ta base p l e R s m args below meth c cells slots Q nL pc L rest M := by
  obtain ⟨hd, rfl⟩ := hd
  exact fun H locs ls h0 h1 h2 h3 => lv_iconst X.1 X.2.1 hd hv (kt H locs ls h0 h1 h2 h3)
theorem a_bipush (X : CallFix p m c cc nL s args Ts own) {n : Int} {v : Int32} (hd : decode cc pc = .ok (.bipush n, 2) ∧ pc + 2 = pc') (hv : (Int8.ofInt n).toInt32 = v) (kt : GA lay cl D ta base p l e R s m args below meth c cells slots Q nL pc' L (.int v :: rest) M) : GA lay cl D ta base p l e R s m args below meth c cells slots Q nL pc L rest M := by
  obtain ⟨hd, rfl⟩ := hd
  exact fun H locs ls h0 h1 h2 h3 => lv_bipush X.1 X.2.1 hd hv (kt H locs ls h0 h1 h2 h3)
theorem a_sipush (X : CallFix p m c cc nL s args Ts own) {n : Int} {v : Int32} (hd : decode cc pc = .ok (.sipush n, 3) ∧ pc + 3 = pc') (hv : (Int16.ofInt n).toInt32 = v) (kt : GA lay cl D ta base p l e R s m args below meth c cells slots Q nL pc' L (.int v :: rest) M) : GA lay cl D ta base p l e R s m args below meth c cells slots Q nL pc L rest M := by
  obtain ⟨hd, rfl⟩ := hd
  exact fun H locs ls h0 h1 h2 h3 => lv_sipush X.1 X.2.1 hd hv (kt H locs ls h0 h1 h2 h3)
theorem a_aload_n (X : CallFix p m c cc nL s args Ts own) {kk : Fin 4} {i x : Nat} (hd : decode cc pc = .ok (.aload_n kk, 1) ∧ pc + 1 = pc') (hi : (kk : Nat) = i) (q : Nat) (hq : L[q]? = some (i, .ref x)) (kt : GA lay cl D ta base p l e R s m args below meth c cells slots Q nL pc' L (.ref x :: rest) M) : GA lay cl D ta base p l e R s m args below meth c cells slots Q nL pc L rest M := by
  obtain ⟨hd, rfl⟩ := hd
  exact fun H locs ls h0 h1 h2 h3 => lv_aload_n X.1 X.2.1 hd hi (lv_at h3 q hq) (kt H locs ls h0 h1 h2 h3)
theorem a_astore_n (X : CallFix p m c cc nL s args Ts own) {kk : Fin 4} {i x : Nat} {L' : List (Nat × Value)} (hd : decode cc pc = .ok (.astore_n kk, 1) ∧ pc + 1 = pc') (hi : (kk : Nat) = i) (hn : i < nL) (hl : (i, Value.ref x) :: L.filter (fun q => !(q.1 == i) && !(q.1 + 1 == i && q.2.category == 2)) = L') (kt : GA lay cl D ta base p l e R s m args below meth c cells slots Q nL pc' L' rest M) : GA lay cl D ta base p l e R s m args below meth c cells slots Q nL pc L (.ref x :: rest) M := by
  obtain ⟨hd, rfl⟩ := hd
  exact fun H locs ls h0 h1 h2 h3 => lv_astore_n X.1 X.2.1 hd hi h3 hn hl (fun ls' h5 => kt H locs ls' h0 h1 h2 h5)
theorem a_dup (X : CallFix p m c cc nL s args Ts own) {va : Value} (hd : decode cc pc = .ok (.dup, 1) ∧ pc + 1 = pc') (hva : va.category = 1) (kt : GA lay cl D ta base p l e R s m args below meth c cells slots Q nL pc' L (va :: va :: rest) M) : GA lay cl D ta base p l e R s m args below meth c cells slots Q nL pc L (va :: rest) M := by
  obtain ⟨hd, rfl⟩ := hd
  exact fun H locs ls h0 h1 h2 h3 => lv_dup X.1 X.2.1 hd hva (kt H locs ls h0 h1 h2 h3)
/-- a new array -/
theorem a_newarr (X : CallFix p m c cc nL s args Ts own) (hK : va_K D cl (gTys ta) s) {at0 : ArrayType} {t k N : Nat} {n : Int32} (hat : (at0 = .int ∧ t = 0) ∨ (at0 = .byte ∧ t = 1)) (hw : Cond.arrayClass (newarray.typeOf at0) ∈ Ts) (hk : lay.length = k) (hn : ¬ n < 0) (hN : n.toNatClampNeg = N) (hb : N * 8 ≤ 536870912) (hc : cells + 1 ≤ R.cells) (hs : slots + N ≤ R.slots) (hd : decode cc pc = .ok (.newarray at0, 2) ∧ pc + 2 = pc') (kt : GA (lay ++ [.inl (t, N)]) cl D ta base p l e R s m args below meth c (cells + 1) (slots + N) Q nL pc' L (.ref (base + k) :: rest) (mpN M k)) : GA lay cl D ta base p l e R s m args below meth c cells slots Q nL pc L (.int n :: rest) M := by
  obtain ⟨hd, rfl⟩ := hd
  subst hk
  intro H locs ls h0 h1 h2 h3
  have hcb : N * componentBytes (newarray.typeOf at0) ≤ 536870912 := by
    rcases hat with ⟨rfl, -⟩ | ⟨rfl, -⟩
    · have : componentBytes (newarray.typeOf .int) = 4 := rfl
      rw [this]; omega
    · have : componentBytes (newarray.typeOf .byte) = 1 := rfl
      rw [this]; omega
  refine va_newaK X.1 X.2.1 (X.2.2.2.2 _ hw) rfl hd rfl hn hN hcb hc hs h0 fun H1 cA e1 z1 o1 hAr hNm => ?_
  have hcA : cA = ta t ∧ defaultValue (newarray.typeOf at0) = .int 0 := by
    rcases hat with ⟨rfl, rfl⟩ | ⟨rfl, rfl⟩
    · have h5 : s.vm.findClass "[I" = some (ta 0) := va_nm_int (hK.2 0 _ rfl).2
      have h6 : s.vm.findClass "[I" = some cA := hNm
      exact ⟨Option.some.inj (h6.symm.trans h5), rfl⟩
    · have h5 : s.vm.findClass "[B" = some (ta 1) := va_nm_byte (hK.2 1 _ rfl).2
      have h6 : s.vm.findClass "[B" = some cA := hNm
      exact ⟨Option.some.inj (h6.symm.trans h5), rfl⟩
  obtain ⟨rfl, hdv⟩ := hcA
  have hkeep : ∀ (i : Nat) (x : Nat × va_E), (hWd base ta M 0 lay)[i]? = some x → H1[x.1]? = H[x.1]? := fun i x hx => o1 x.1 (by have := (h1 i x hx).lt; omega)
  have hP1 : va_P D cl (hWd base ta M 0 lay ++ [(base + lay.length, hE base ta (fun _ => 0) (.inl (t, N)))]) H1 := by
    refine (h1.kept hkeep).app (fun i x hx => ?_)
    have hz : i < 1 := (List.getElem?_eq_some_iff.mp hx).1
    rw [show i = 0 by omega] at hx
    cases hx
    show H1[base + lay.length]? = some (vp_cell _ _)
    rw [e1, vp_cell_i, hdv]
  rw [hWd_push rfl] at hP1
  exact kt H1 locs ls (by rw [z1]; simp; omega) hP1 ⟨Nat.le_trans h2.1 (by omega), fun x g1 g2 => (o1 x (by have := h2.1; omega)).trans (h2.2.1 x g1 g2), h2.2.2⟩ h3
/-- a new object -/
theorem a_new (X : CallFix p m c cc nL s args Ts own) (hK : va_K D cl (gTys ta) s) {C : String} {T : u_T} {N ci index k : Nat} {fs : List (Option (Option Nat))} (hin : ∀ w ∈ u_ws C T N, w ∈ Ts) (ty : Nat → FieldType) (hty : ∀ k, k < N → parseFieldDescriptor (T k).2.2.1 = some (ty k)) (hcl : Cond.classLink own index C ∈ Ts) (hinst : Cond.instantiable C N ∈ Ts) (hini : Cond.initialized C ∈ Ts) (hci : cl[ci]? = some (C, T, N)) (hfs : ∀ j, j < N → defaultValue (ty j) = vp_V (hFld base (fun _ => 0) 0 fs) j) (hk : lay.length = k) (hc : cells + 1 ≤ R.cells) (hs : slots + N ≤ R.slots) (hd : decode cc pc = .ok (.new index, 3) ∧ pc + 3 = pc') (kt : GA (lay ++ [.inr (ci, fs)]) cl D ta base p l e R s m args below meth c (cells + 1) (slots + N) Q nL pc' L (.ref (base + k) :: rest) (mpN M k)) : GA lay cl D ta base p l e R s m args below meth c cells slots Q nL pc L rest M := by
  obtain ⟨hd, rfl⟩ := hd
  subst hk
  intro H locs ls h0 h1 h2 h3
  have hKn := hK.1 ci _ hci
  refine W.newcK X.1 X.2.1 X.2.2.2.1 (X.2.2.2.2 _ hcl) (X.2.2.2.2 _ hinst) (X.2.2.2.2 _ hini) rfl hd hc hs hKn.2.1 h0 fun H1 kC hkC e1 z1 o1 => ?_
  have hkeep : ∀ (i : Nat) (x : Nat × va_E), (hWd base ta M 0 lay)[i]? = some x → H1[x.1]? = H[x.1]? := fun i x hx => o1 x.1 (by have := (h1 i x hx).lt; omega)
  have hP1 : va_P D cl (hWd base ta M 0 lay ++ [(base + lay.length, hE base ta (fun _ => 0) (.inr (ci, fs)))]) H1 := by
    refine (h1.kept hkeep).app (fun i x hx => ?_)
    have hz : i < 1 := (List.getElem?_eq_some_iff.mp hx).1
    rw [show i = 0 by omega] at hx
    cases hx
    exact ⟨_, hci, (u_born ty X.2.2.2.2 hin hKn hkC e1 hty).to hfs⟩
  rw [hWd_push rfl] at hP1
  exact kt H1 locs ls (by rw [z1]; simp; omega) hP1 ⟨Nat.le_trans h2.1 (by omega), fun x g1 g2 => (o1 x (by have := h2.1; omega)).trans (h2.2.1 x g1 g2), h2.2.2⟩ h3
theorem a_lay {lay2 : List hDesc} {st : List Value} (h : lay = lay2) (kt : GA lay2 cl D ta base p l e R s m args below meth c cells slots Q nL pc L st M) : GA lay cl D ta base p l e R s m args below meth c cells slots Q nL pc L st M := h ▸ kt
theorem a_args {L' : List (Nat × Value)} {st : List Value} (h : L = L') (kt : GA lay cl D ta base p l e R s m args below meth c cells slots Q nL pc L' st M) : GA lay cl D ta base p l e R s m args below meth c cells slots Q nL pc L st M := h ▸ kt
theorem a_toG {glay : List gDesc} {st : List Value} (h : hWd base ta M 0 lay = gWd base ta M 0 glay) (kt : GW glay cl D ta base p l e R s m args below meth c cells slots Q nL pc L st M) : GA lay cl D ta base p l e R s m args below meth c cells slots Q nL pc L st M := fun H locs ls _ h1 h2 h3 => kt H locs ls (h ▸ h1) h2 h3
end GAR

section GAP
variable {lay : List hDesc} {cl : List vw_C} {D : va_G} {ta : Nat → ClassId} {base : Nat} {nw : List Cond} {sa : Nat → Nat} {tabs : List (String × String × List Int32)} {p : Program} {l : Launch} {e : Env} {R : Room} {s : State} {m : MethodId} {args : Array Value} {below : List Frame} {meth : Method} {c : Code} {cells slots : Nat} {Q : State → Prop} {nL : Nat} {cc : ByteArray} {pc pc' : Nat} {L : List (Nat × Value)} {rest : List Value} {M : gMem} {Ts : List Cond} {own : String}
/-- all that a field of class ci at place j needs for a write -/
def hPk (cl : List vw_C) (Ts : List Cond) (own : String) (index ci j : Nat) (fin : Bool) (ty : FieldType) : Prop := ∃ (T : u_T) (N : Nat) (ty0 : Nat → FieldType), cl[ci]? = some (own, T, N) ∧ (∀ w ∈ u_ws own T N, w ∈ Ts) ∧ (∀ k, k < N → parseFieldDescriptor (T k).2.2.1 = some (ty0 k)) ∧ (∀ a, a < N → ∀ b, b < N → a ≠ b → (T a).2.1 ≠ (T b).2.1) ∧ j < N ∧ (T j).1 = own ∧ (T j).2.2.2 = fin ∧ parseFieldDescriptor (T j).2.2.1 = some ty ∧ Cond.fieldLink own index (T j).1 (T j).2.1 (T j).2.2.1 ∈ Ts
theorem a_put (X : CallFix p m c cc nL s args Ts own) (hK : va_K D cl (gTys ta) s) {index k ci j : Nat} {fin : Bool} {ty : FieldType} {fs : List (Option (Option Nat))} {o : Option (Option Nat)} {v : Value} {x : Int32} (hp : hPk cl Ts own index ci j fin ty) (hinit : fin = true → meth.name = "<init>") (hk : lay[k]? = some (.inr (ci, fs))) (hj : j < fs.length) (hv : v = hRef base (upd (M k) j x) j o) (hn : narrow ty v = v) (hfit : fits ty v = true) (hd : decode cc pc = .ok (.putfield index, 3) ∧ pc + 3 = pc') (kt : GA (lay.set k (.inr (ci, fs.set j o))) cl D ta base p l e R s m args below meth c cells slots Q nL pc' L rest (mpF M k j x)) : GA lay cl D ta base p l e R s m args below meth c cells slots Q nL pc L (v :: .ref (base + k) :: rest) M := by
  obtain ⟨hd, rfl⟩ := hd
  obtain ⟨T, N, ty0, hc, hin, hty, hnm, hjN, hdecl, hfin, hdj, hlink⟩ := hp
  intro H locs ls h0 h1 h2 h3
  have hown := X.2.2.2.1
  have hts := X.2.2.2.2
  have hap := va_apart (own := own) hts hin ty0 hty hnm hK hc
  have he := hWd_at (base := base) (ta := ta) (M := M) hk
  obtain ⟨r, g1, cell, q1, q2, q3, q4⟩ := h1 k _ he
  have hr : r = (own, T, N) := Option.some.inj (g1.symm.trans hc)
  subst hr
  obtain ⟨hS, hfc, kC, hkC, hkind⟩ := hK.1 ci _ hc
  obtain ⟨cf, kf, fi, f, hi, hsl⟩ := hS j hjN
  have hlay := hts _ (hin _ (u_in_lay hjN))
  have hst := (u_facts hfc hkC (u_lays hts hin hjN) hi).1
  have hl : j < (hFld base (M k) 0 fs).length := by
    have h5 : (hFld base (M k) 0 fs)[j]? = some (hRef base (M k) (0 + j) (fs[j])) := by
      rw [hFld_get, List.getElem?_eq_getElem hj]
      rfl
    exact (List.getElem?_eq_some_iff.mp h5).1
  have fin2 : ∀ (H' : Heap) (locs' : List Loc), H'[base + k]? = some (cell.setSlot (D.2 ci j) v) → H'.size = H.size → (∀ q, q ≠ base + k → H'[q]? = H[q]?) → va_S (fun q => base ≤ q) s.heap H' locs' → W p l e R s m args below meth c H' locs' cells slots Q (F0 m (pc + 3) ls rest) := by
    intro H' locs' e1 e2 e3 hS'
    have hP' := h1.set hWd_D he (e := .inr (ci, (hFld base (M k) 0 fs).set j v)) ⟨_, hc, t_OB.to (V := updV (vp_V (hFld base (M k) 0 fs)) j v) ⟨_, e1, q2, q3, t_set q4 hap hjN v⟩ (fun i _ => vp_updV_set hl v i)⟩ e3
    rw [hv, hWd_setF hk hj] at hP'
    exact kt H' locs' ls (by rw [e2, h0]; simp) hP' hS' h3
  cases fin with
  | true =>
    unfold u_lay at hlay
    rw [if_pos hfin] at hlay
    have hcf : m.cls = cf := by
      obtain ⟨_, _, c', _, _, _, -, -, hf', -, -, -, hown2, -⟩ := Cond.laysFinal_spec hlay
      have e1 : c' = cf := by have := hi.symm.trans hf'; simp at this; exact this.1.symm
      rw [hdecl] at hown2
      rw [← e1]; exact Option.some.inj (hown.symm.trans hown2)
    have h6 := u_fits hfc hkC hkind (Or.inr hlay) hi hdj hn hfit
    refine W.putFinK X.1 X.2.1 hown (hts _ hlink) hi hst hcf (hinit rfl) (by rw [q2]; exact h6) q1 q3 (by rw [hsl]; exact k2_hasslot (q4 j hjN)) rfl rfl hd fun H' e1 e2 e3 => ?_
    rw [hsl] at e1 ⊢
    exact fin2 H' _ e1 e2 e3 (h2.put e2 e3 (by show base ≤ base + k; omega))
  | false =>
    unfold u_lay at hlay
    rw [if_neg (by rw [hfin]; decide)] at hlay
    have h6 := u_store hfc hkC hkind hlay hi hdj hn hfit
    refine W.putK X.1 X.2.1 (f := f) ⟨hown, hts _ hlink, ⟨_, _, _, hi⟩, hst⟩ (by rw [q2]; exact h6) q1 q3 (by rw [hsl]; exact k2_hasslot (q4 j hjN)) rfl rfl hd fun H' e1 e2 e3 => ?_
    rw [hsl] at e1 ⊢
    exact fin2 H' _ e1 e2 e3 (h2.put e2 e3 (by show base ≤ base + k; omega))
theorem a_getr (X : CallFix p m c cc nL s args Ts own) (hK : va_K D cl (gTys ta) s) {index k ci j q : Nat} {fs : List (Option (Option Nat))} (hf : gFl cl Ts own index ci j) (hk : lay[k]? = some (.inr (ci, fs))) (hj : fs[j]? = some (some (some q))) (hd : decode cc pc = .ok (.getfield index, 3) ∧ pc + 3 = pc') (kt : GA lay cl D ta base p l e R s m args below meth c cells slots Q nL pc' L (.ref (base + q) :: rest) M) : GA lay cl D ta base p l e R s m args below meth c cells slots Q nL pc L (.ref (base + k) :: rest) M := by
  obtain ⟨hd, rfl⟩ := hd
  obtain ⟨C, T, N, h1, h2, h3, h4⟩ := hf
  intro H locs ls h0 a1 a2 a3
  exact va_get (D := D) (ci := ci) (v := .ref (base + q)) X.1 X.2.1 X.2.2.2.2 h2 X.2.2.2.1 hK a1 k (hWd_at hk) h1 j h3 (X.2.2.2.2 _ h4) (fun _ h9 => h9) (by rw [hFld_get, hj]; simp [hRef]) hd (kt H locs ls h0 a1 a2 a3)
theorem a_iast (X : CallFix p m c cc nL s args Ts own) (hK : va_K D cl (gTys ta) s) {k n : Nat} {i x : Int32} (hk : lay[k]? = some (.inl (0, n))) (hi : vp_in i n) (hd : decode cc pc = .ok (.iastore, 1) ∧ pc + 1 = pc') (kt : GA lay cl D ta base p l e R s m args below meth c cells slots Q nL pc' L rest (mpF M k i.toNatClampNeg x)) : GA lay cl D ta base p l e R s m args below meth c cells slots Q nL pc L (.int x :: .int i :: .ref (base + k) :: rest) M := by
  obtain ⟨hd, rfl⟩ := hd
  intro H locs ls h0 h1 h2 h3
  have he := hWd_at (base := base) (ta := ta) (M := M) hk
  refine W.iast X.1 X.2.1 (h1 k _ he) ((hK.2 0 _ rfl).1 n (fun j => .int (M k j))) (fun q => by cases q) (by show ¬ (i < 0 ∨ (arrV _ _ _).slots.size ≤ _); rw [arrV_size]; exact hi) rfl rfl hd fun H1 e z oq => ?_
  have hP' := h1.set hWd_D he (e := .inl (ta 0, n, .inl (upd (M k) i.toNatClampNeg x))) (by
    show H1[base + k]? = some (vp_cell _ _)
    rw [e]
    show some ((vp_cell (ta 0) (n, .inl (M k))).setSlot _ _) = _
    rw [vp_cell_i, vp_cell_i, arrV_store]
    congr 2
    funext q
    by_cases hq : q = i.toNatClampNeg
    · subst hq
      simp [updV, upd]
    · simp [updV, upd, hq]) oq
  rw [hWd_setA hk] at hP'
  exact kt H1 _ ls (by rw [z, h0]) hP' (h2.put z oq (by show base ≤ base + k; omega)) h3
/-- Object.<init> -/
theorem a_obj (X : CallFix p m c cc nL s args Ts own) {index a : Nat} (hl : Cond.methodLink own index objectInit ∈ Ts) (hi : Cond.instanceMethod objectInit ∈ Ts) (hco : Cond.code objectInit ⟨#[0xb1]⟩ 1 none ∈ Ts) (hfr : 1 ≤ R.frames) (hlo : (rest.map fun v => v.category).sum + 12 ≤ R.locals) (hd : decode cc pc = .ok (.invokespecial index, 3) ∧ pc + 3 = pc') (kt : GA lay cl D ta base p l e R s m args below meth c cells slots Q nL pc' L rest M) : GA lay cl D ta base p l e R s m args below meth c cells slots Q nL pc L (.ref a :: rest) M := by
  obtain ⟨hd, rfl⟩ := hd
  intro H locs ls h0 h1 h2 h3
  exact W.objInit X.1 X.2.1 X.2.2.2.1 (X.2.2.2.2 _ hl) (X.2.2.2.2 _ hi) (X.2.2.2.2 _ hco) rfl (X.2.2.1.symm ▸ h3.1) rfl hd hfr (by show 2 * 0 + _ + 12 ≤ _; omega) (kt H locs ls h0 h1 h2 h3)
/-- a constructor's contract: the world grows from lay to lay', of nc cells and ns places -/
def hQ (lay' : List hDesc) (cl : List vw_C) (D : va_G) (ta : Nat → ClassId) (base : Nat) (M' : gMem) : Array Value → State → Outcome → State → Prop := fun _ st oc t => oc = .returned none ∧ t.heap.size = base + lay'.length ∧ va_P D cl (hWd base ta M' 0 lay') t.heap ∧ va_F (fun q => base ≤ q) st t
def hPc (lay : List hDesc) (cl : List vw_C) (D : va_G) (ta : Nat → ClassId) (base : Nat) (nw : List Cond) (sa : Nat → Nat) (tabs : List (String × String × List Int32)) (av : List Value) (M : gMem) : Array Value → State → Prop := va_Pc av (fun U => U.heap.size = base + lay.length ∧ va_P D cl (hWd base ta M 0 lay) U.heap ∧ gK cl D ta base nw sa tabs U)
abbrev hRm (f lo nc ns : Nat) : Room := { frames := f, cells := nc, slots := ns, locals := lo }
def GI (lay lay' : List hDesc) (cl : List vw_C) (D : va_G) (ta : Nat → ClassId) (base : Nat) (nw : List Cond) (sa : Nat → Nat) (tabs : List (String × String × List Int32)) (Ts : List Cond) (l : Launch) (y : MethodName) (cc : ByteArray) (maxL : Nat) (f lo nc ns : Nat) (av : List Value) (M M' : gMem) : Prop :=
  Met l y (Cond.code y cc maxL none :: Ts) (hRm f lo nc ns) (hPc lay cl D ta base nw sa tabs av M) (hQ lay' cl D ta base M') nc ns (fun q => base ≤ q)
theorem hPc.blind {av : List Value} : FrameBlind (hPc lay cl D ta base nw sa tabs av M) := by
  intro a U g mk h
  obtain ⟨h1, h2, h3, h4⟩ := h
  exact ⟨h1, h2, h3, h4.same rfl rfl⟩
theorem GI.of {lay' : List hDesc} {y : MethodName} {maxL f lo nc ns : Nat} {av : List Value} {M' : gMem} (hy : plainName y.cls = true) (ho : y.cls = own) (hnm : y.name = "<init>") (hlen : (lg_sl av).length ≤ maxL)
    (body : ∀ (p : Program) (e : Env) (s : State) (m : MethodId) (below : List Frame) (meth : Method) (c : Code), CallFix p m c cc maxL s av.toArray Ts own → gK cl D ta base nw sa tabs s → meth.sig.returnType = none → meth.locks = false → meth.name = "<init>" →
      GA lay cl D ta base p l e (hRm f lo nc ns) s m av.toArray below meth c 0 0 (MQ below (hQ lay' cl D ta base M') av.toArray s nc ns (fun q => base ≤ q)) maxL 0 (lv_args 0 av) [] M) : GI lay lay' cl D ta base nw sa tabs Ts l y cc maxL f lo nc ns av M M' := by
  refine Met.ofW (cc := cc) (maxL := maxL) (ret := none) hy rfl ?_
  intro p e s m args below meth c s₁ B hml hv
  obtain ⟨rfl, hz, hP, hK⟩ := hv
  have hts := atoms_spec (ws := Cond.code y cc maxL none :: Ts) B.pre
  have hl := lv_entry av hlen
  rw [lg_entry_eq]
  exact body p e s m below meth c ⟨B.exec, B.bytes, hml, ho ▸ findClass_of_methodNamed B.named, fun w hw => hts w (List.mem_cons_of_mem _ hw)⟩ hK B.returns B.notSynchronized (hnm ▸ (name_of_methodNamed B.named B.method).1) s.heap [] _ hz hP va_S.rf hl
theorem a_vret {lay' : List hDesc} {M' : gMem} (X : CallFix p m c cc nL s args Ts own) (hr : meth.sig.returnType = none) (hlocks : meth.locks = false) (hd : decode cc pc = .ok (.return_, 1) ∧ pc + 1 = pc') (he : lay = lay') (hm : hWd base ta M 0 lay' = hWd base ta M' 0 lay') : GA lay cl D ta base p l e R s m args below meth c cells slots (MQ below (hQ lay' cl D ta base M') args s cells slots (fun q => base ≤ q)) nL pc L [] M := by
  subst he
  intro H locs ls h0 h1 h2 h3
  exact W.vret X.1 X.2.1 hr (fun t ht hW => ⟨rfl, by rw [ht]; exact h0, by rw [ht, ← hm]; exact h1, h2.F ht⟩) h2.2.2 hd.1 hlocks
theorem a_preS {H : Heap} {locs : List Loc} {av : List Value} (hK : gK cl D ta base nw sa tabs s) (h0 : H.size = base + lay.length) (a1 : va_P D cl (hWd base ta M 0 lay) H) (a2 : va_S (fun q => base ≤ q) s.heap H locs) : PreS s H (hPc lay cl D ta base nw sa tabs av M) av :=
  ⟨hPc.blind, fun U hU hW => ⟨rfl, by rw [hU]; exact h0, by rw [hU]; exact a1, hK.to hW (fun q h1 h2 => by rw [hU]; exact a2.2.1 q h1 h2)⟩⟩
variable {lay' : List hDesc} {y : MethodName} {bytes : ByteArray} {maxL n f lo nc ns : Nat} {As : List Value} {M' : gMem}
theorem a_afterI {st0 : List Value} {a : Array Value} (hr : ∀ (H : Heap) (locs : List Loc) (ls : Array Slot), H.size = base + lay.length → va_P D cl (hWd base ta M 0 lay) H → va_S (fun q => base ≤ q) s.heap H locs → lv_has ls nL L → va_Run p l e R s m args below meth c H locs cells slots nc ns (F0 m pc ls st0) rest (hQ lay' cl D ta base M' a) (fun q => base ≤ q)) (hp : pc + 3 = pc')
    (kt : GA lay' cl D ta base p l e R s m args below meth c (cells + nc) (slots + ns) Q nL pc' L rest M') : GA lay cl D ta base p l e R s m args below meth c cells slots Q nL pc L st0 M := by
  subst hp
  intro H locs ls h0 a1 a2 a3 T hT X
  obtain ⟨v, st₀, t, T', L', e0, X', hL, e1, e2, ⟨hv, hz0, hP', hz, hk⟩, st⟩ := hr H locs ls h0 a1 a2 a3 T hT X
  cases hv
  rw [e0] at hz hk
  obtain ⟨t2, b1, b2⟩ := kt t.heap (locs ++ L') ls hz0 hP' ⟨Nat.le_trans a2.1 hz, fun q h1 h2 => by rw [hk q (Nat.lt_of_lt_of_le h1 a2.1) h2]; exact a2.2.1 q h1 h2, fun q hq => by
      rcases List.mem_append.mp hq with h | h
      · exact a2.2.2 q h
      · exact hL q h⟩ a3 T' e1 X'
  exact ⟨t2, st t2 b1, b2⟩
theorem a_init (X : CallFix p m c cc nL s args Ts own) (hK : gK cl D ta base nw sa tabs s) (hG : gGood Ts) {index b : Nat} (hw : gMw Ts y bytes maxL none n) (hl : Cond.methodLink own index y ∈ Ts) (hi : Cond.instanceMethod y ∈ Ts) (hy : y.name = "<init>") (hn : As.length = n) (hR : f + 1 ≤ R.frames ∧ 8 + (maxL + 11) + lo ≤ R.locals ∧ cells + nc ≤ R.cells ∧ slots + ns ≤ R.slots) (hM : GI lay lay' cl D ta base nw sa tabs Ts l y bytes maxL f lo nc ns (.ref b :: As) M M') {st0 : List Value} (hs0 : st0 = As.reverse ++ .ref b :: rest) (hrest : (rest.map fun v => v.category).sum ≤ 8) (hd : decode cc pc = .ok (.invokespecial index, 3) ∧ pc + 3 = pc')
    (kt : GA lay' cl D ta base p l e R s m args below meth c (cells + nc) (slots + ns) Q nL pc' L rest M') : GA lay cl D ta base p l e R s m args below meth c cells slots Q nL pc L st0 M := by
  subst hs0
  obtain ⟨w1, w2, w3⟩ := hw
  refine a_afterI (a := (Value.ref b :: As).toArray) (fun H locs ls h0 a1 a2 a3 => ?_) hd.2 kt
  refine va_runI X hM ⟨callB_of n X.2.2.2.2 (hG.in (fun w h => ?_)) rfl rfl rfl (X.2.2.2.2 _ w2) (X.2.2.2.2 _ hl) w3 ⟨hR.1, hR.2.1⟩, hy, X.2.2.2.2 _ hi⟩ (a_preS hK h0 a1 a2) rfl hn a3.1 rfl (lv_room hrest) hd.1 ⟨hR.2.2.1, hR.2.2.2⟩
  rcases List.mem_cons.mp h with h | h
  · rw [h]; exact w1
  · exact h
theorem a_initN (X : CallFix p m c cc nL s args Ts own) (hK : gK cl D ta base nw sa tabs s) (hG : gGood Ts) {index b : Nat} {host : String} (hw : gMw Ts y bytes maxL none n) (hl : Cond.methodLinkNest own index y host ∈ nw) (hi : Cond.instanceMethod y ∈ Ts) (hy : y.name = "<init>") (hn : As.length = n) (hR : f + 1 ≤ R.frames ∧ 8 + (maxL + 11) + lo ≤ R.locals ∧ cells + nc ≤ R.cells ∧ slots + ns ≤ R.slots) (hM : GI lay lay' cl D ta base nw sa tabs Ts l y bytes maxL f lo nc ns (.ref b :: As) M M') {st0 : List Value} (hs0 : st0 = As.reverse ++ .ref b :: rest) (hrest : (rest.map fun v => v.category).sum ≤ 8) (hd : decode cc pc = .ok (.invokespecial index, 3) ∧ pc + 3 = pc')
    (kt : GA lay' cl D ta base p l e R s m args below meth c (cells + nc) (slots + ns) Q nL pc' L rest M') : GA lay cl D ta base p l e R s m args below meth c cells slots Q nL pc L st0 M := by
  subst hs0
  obtain ⟨w1, w2, w3⟩ := hw
  refine a_afterI (a := (Value.ref b :: As).toArray) (fun H locs ls h0 a1 a2 a3 => ?_) hd.2 kt
  refine va_runIN X hM ⟨va_cnB n X.2.2.2.2 (hG.in (fun w h => ?_)) rfl rfl rfl (hK.2.1 _ hl).2 (X.2.2.2.2 _ w2) w3 ⟨hR.1, hR.2.1⟩, hy, X.2.2.2.2 _ hi⟩ (a_preS hK h0 a1 a2) rfl hn a3.1 rfl (lv_room hrest) hd.1 ⟨hR.2.2.1, hR.2.2.2⟩
  rcases List.mem_cons.mp h with h | h
  · rw [h]; exact w1
  · exact h
/-- a constructor that ends in the methods' world -/
def GJ (lay : List hDesc) (glay : List gDesc) (cl : List vw_C) (D : va_G) (ta : Nat → ClassId) (base : Nat) (nw : List Cond) (sa : Nat → Nat) (tabs : List (String × String × List Int32)) (Ts : List Cond) (l : Launch) (y : MethodName) (cc : ByteArray) (maxL : Nat) (f lo nc ns : Nat) (av : List Value) (M : gMem) (post : gMem → Prop) : Prop :=
  Met l y (Cond.code y cc maxL none :: Ts) (hRm f lo nc ns) (hPc lay cl D ta base nw sa tabs av M) (gQ glay cl D ta base (gPv post)) nc ns (fun q => base ≤ q)
theorem GJ.of {glay : List gDesc} {y : MethodName} {maxL f lo nc ns : Nat} {av : List Value} {post : gMem → Prop} (hy : plainName y.cls = true) (ho : y.cls = own) (hnm : y.name = "<init>") (hlen : (lg_sl av).length ≤ maxL)
    (body : ∀ (p : Program) (e : Env) (s : State) (m : MethodId) (below : List Frame) (meth : Method) (c : Code), CallFix p m c cc maxL s av.toArray Ts own → gK cl D ta base nw sa tabs s → meth.sig.returnType = none → meth.locks = false → meth.name = "<init>" →
      GA lay cl D ta base p l e (hRm f lo nc ns) s m av.toArray below meth c 0 0 (MQ below (gQ glay cl D ta base (gPv post)) av.toArray s nc ns (fun q => base ≤ q)) maxL 0 (lv_args 0 av) [] M) : GJ lay glay cl D ta base nw sa tabs Ts l y cc maxL f lo nc ns av M post := by
  refine Met.ofW (cc := cc) (maxL := maxL) (ret := none) hy rfl ?_
  intro p e s m args below meth c s₁ B hml hv
  obtain ⟨rfl, hz, hP, hK⟩ := hv
  have hts := atoms_spec (ws := Cond.code y cc maxL none :: Ts) B.pre
  have hl := lv_entry av hlen
  rw [lg_entry_eq]
  exact body p e s m below meth c ⟨B.exec, B.bytes, hml, ho ▸ findClass_of_methodNamed B.named, fun w hw => hts w (List.mem_cons_of_mem _ hw)⟩ hK B.returns B.notSynchronized (hnm ▸ (name_of_methodNamed B.named B.method).1) s.heap [] _ hz hP va_S.rf hl
theorem a_initJ {glay : List gDesc} {post : gMem → Prop} (X : CallFix p m c cc nL s args Ts own) (hK : gK cl D ta base nw sa tabs s) (hG : gGood Ts) {index b : Nat} (hw : gMw Ts y bytes maxL none n) (hl : Cond.methodLink own index y ∈ Ts) (hi : Cond.instanceMethod y ∈ Ts) (hy : y.name = "<init>") (hn : As.length = n) (hR : f + 1 ≤ R.frames ∧ 8 + (maxL + 11) + lo ≤ R.locals ∧ cells + nc ≤ R.cells ∧ slots + ns ≤ R.slots) (hM : GJ lay glay cl D ta base nw sa tabs Ts l y bytes maxL f lo nc ns (.ref b :: As) M post) {st0 : List Value} (hs0 : st0 = As.reverse ++ .ref b :: rest) (hrest : (rest.map fun v => v.category).sum ≤ 8) (hd : decode cc pc = .ok (.invokespecial index, 3) ∧ pc + 3 = pc')
    (kt : ∀ M' : gMem, post M' → GW glay cl D ta base p l e R s m args below meth c (cells + nc) (slots + ns) Q nL pc' L rest M') : GA lay cl D ta base p l e R s m args below meth c cells slots Q nL pc L st0 M := by
  subst hs0
  obtain ⟨hd, rfl⟩ := hd
  obtain ⟨w1, w2, w3⟩ := hw
  intro H locs ls h0 a1 a2 a3 T hT XX
  have hrun := va_runI (e := e) (below := below) (meth := meth) (locs := locs) (cells := cells) (slots := slots) (rest := rest) X hM ⟨callB_of n X.2.2.2.2 (hG.in (fun w h => by
    rcases List.mem_cons.mp h with h | h
    · rw [h]; exact w1
    · exact h)) rfl rfl rfl (X.2.2.2.2 _ w2) (X.2.2.2.2 _ hl) w3 ⟨hR.1, hR.2.1⟩, hy, X.2.2.2.2 _ hi⟩ (a_preS hK h0 a1 a2) (g := F0 m pc ls (As.reverse ++ .ref b :: rest)) rfl hn a3.1 rfl (lv_room hrest) hd ⟨hR.2.2.1, hR.2.2.2⟩
  obtain ⟨v, st₀, t, T', L', e0, X', hL, e1, e2, ⟨r, M', hv, ⟨hrn, hp⟩, hP', hz, hk⟩, st⟩ := hrun T hT XX
  cases hv
  subst hrn
  rw [e0] at hz hk
  obtain ⟨t2, b1, b2⟩ := kt M' hp t.heap (locs ++ L') ls hP' ⟨Nat.le_trans a2.1 hz, fun q h1 h2 => by rw [hk q (Nat.lt_of_lt_of_le h1 a2.1) h2]; exact a2.2.1 q h1 h2, fun q hq => by
      rcases List.mem_append.mp hq with h | h
      · exact a2.2.2 q h
      · exact hL q h⟩ a3 T' e1 X'
  exact ⟨t2, st t2 b1, b2⟩
end GAP

