/-! The world of the two programs: a fixed list of cells (arrays of ints or bytes; objects whose fields are ints or references to cells of the list); its numbers are a function M: cell, place. -/
abbrev gMem : Type := Nat → Nat → Int32
abbrev gDesc : Type := (Nat × Nat) ⊕ (Nat × List (Option Nat))
def gFld (base : Nat) (f : Nat → Int32) : Nat → List (Option Nat) → List Value
  | _, [] => []
  | j, none :: r => .int (f j) :: gFld base f (j + 1) r
  | j, some q :: r => .ref (base + q) :: gFld base f (j + 1) r
def gE (base : Nat) (ta : Nat → ClassId) (f : Nat → Int32) : gDesc → va_E
  | .inl (t, n) => .inl (ta t, n, .inl f)
  | .inr (ci, fs) => .inr (ci, gFld base f 0 fs)
def gWd (base : Nat) (ta : Nat → ClassId) (M : gMem) : Nat → List gDesc → va_W
  | _, [] => []
  | k, d :: r => (base + k, gE base ta (M k) d) :: gWd base ta M (k + 1) r
def gRef (base : Nat) (f : Nat → Int32) (j : Nat) : Option Nat → Value
  | none => .int (f j)
  | some q => .ref (base + q)
theorem gWd_get {base : Nat} {ta : Nat → ClassId} {M : gMem} : ∀ (lay : List gDesc) (k i : Nat), (gWd base ta M k lay)[i]? = (lay[i]?).map (fun d => (base + (k + i), gE base ta (M (k + i)) d))
  | [], k, i => by simp [gWd]
  | d :: r, k, 0 => by simp [gWd]
  | d :: r, k, i + 1 => by
    have h := gWd_get (base := base) (ta := ta) (M := M) r (k + 1) i
    rw [show k + (i + 1) = k + 1 + i by omega]
    simpa [gWd] using h
theorem gFld_get {base : Nat} {f : Nat → Int32} : ∀ (fs : List (Option Nat)) (j i : Nat), (gFld base f j fs)[i]? = (fs[i]?).map (fun o => gRef base f (j + i) o)
  | [], j, i => by simp [gFld]
  | none :: r, j, 0 => by simp [gFld, gRef]
  | some q :: r, j, 0 => by simp [gFld, gRef]
  | none :: r, j, i + 1 => by
    have h := gFld_get (base := base) (f := f) r (j + 1) i
    rw [show j + (i + 1) = j + 1 + i by omega]
    simpa [gFld] using h
  | some q :: r, j, i + 1 => by
    have h := gFld_get (base := base) (f := f) r (j + 1) i
    rw [show j + (i + 1) = j + 1 + i by omega]
    simpa [gFld] using h
theorem gWd_len {base : Nat} {ta : Nat → ClassId} {M : gMem} : ∀ (lay : List gDesc) (k : Nat), (gWd base ta M k lay).length = lay.length
  | [], k => rfl
  | d :: r, k => by simp [gWd, gWd_len r (k + 1)]
theorem gWd_at {base : Nat} {ta : Nat → ClassId} {M : gMem} {lay : List gDesc} {k : Nat} {d : gDesc} (h : lay[k]? = some d) : (gWd base ta M 0 lay)[k]? = some (base + k, gE base ta (M k) d) := by
  rw [gWd_get, h]
  simp
theorem gWd_D {base : Nat} {ta : Nat → ClassId} {M : gMem} {lay : List gDesc} : va_D (fun q => base ≤ q) (gWd base ta M 0 lay) := by
  refine ⟨fun i j x y hi hj hxy => ?_, fun k x hk => ?_⟩
  · rw [gWd_get] at hi hj
    obtain ⟨d1, h1, rfl⟩ := Option.map_eq_some_iff.mp hi
    obtain ⟨d2, h2, rfl⟩ := Option.map_eq_some_iff.mp hj
    have h3 : base + (0 + i) = base + (0 + j) := hxy
    omega
  · rw [gWd_get] at hk
    obtain ⟨d1, h1, rfl⟩ := Option.map_eq_some_iff.mp hk
    show base ≤ base + (0 + k)
    omega
/-- an array's cell is written -/
theorem gWd_setA {base : Nat} {ta : Nat → ClassId} {M : gMem} {lay : List gDesc} {k t n : Nat} {g : Nat → Int32} (h : lay[k]? = some (.inl (t, n))) : (gWd base ta M 0 lay).set k (base + k, .inl (ta t, n, .inl g)) = gWd base ta (va_up M k g) 0 lay := by
  apply List.ext_getElem?
  intro i
  have hl : k < (gWd base ta M 0 lay).length := by
    rw [gWd_len]
    exact (List.getElem?_eq_some_iff.mp h).1
  by_cases hi : k = i
  · subst hi
    rw [List.getElem?_set_self hl, gWd_at h]
    simp [gE, va_up]
  · rw [List.getElem?_set_ne hi, gWd_get, gWd_get]
    have : va_up M k g (0 + i) = M (0 + i) := by
      rw [Nat.zero_add]
      exact va_up_ne M g (fun q => hi q.symm)
    rw [this]
theorem gFld_set {base : Nat} {f : Nat → Int32} {fs : List (Option Nat)} {j : Nat} {x : Int32} (h : fs[j]? = some none) : (gFld base f 0 fs).set j (.int x) = gFld base (upd f j x) 0 fs := by
  apply List.ext_getElem?
  intro i
  have hl : j < (gFld base f 0 fs).length := by
    have h1 : (gFld base f 0 fs)[j]? = some (.int (f (0 + j))) := by rw [gFld_get, h]; rfl
    exact (List.getElem?_eq_some_iff.mp h1).1
  by_cases hi : j = i
  · subst hi
    rw [List.getElem?_set_self hl, gFld_get, h]
    simp [gRef, upd]
  · rw [List.getElem?_set_ne hi, gFld_get, gFld_get]
    cases hfi : fs[i]? with
    | none => rfl
    | some o =>
      cases o with
      | none =>
        have : ¬ i = j := fun q => hi q.symm
        simp [gRef, upd, this]
      | some q => simp [gRef]
/-- an int field is written -/
theorem gWd_setF {base : Nat} {ta : Nat → ClassId} {M : gMem} {lay : List gDesc} {k ci j : Nat} {fs : List (Option Nat)} {x : Int32} (h : lay[k]? = some (.inr (ci, fs))) (hj : fs[j]? = some none) : (gWd base ta M 0 lay).set k (base + k, .inr (ci, (gFld base (M k) 0 fs).set j (.int x))) = gWd base ta (va_up M k (upd (M k) j x)) 0 lay := by
  apply List.ext_getElem?
  intro i
  have hl : k < (gWd base ta M 0 lay).length := by
    rw [gWd_len]
    exact (List.getElem?_eq_some_iff.mp h).1
  by_cases hi : k = i
  · subst hi
    rw [List.getElem?_set_self hl, gWd_at h, gFld_set hj]
    simp [gE, va_up]
  · rw [List.getElem?_set_ne hi, gWd_get, gWd_get]
    have : va_up M k (upd (M k) j x) (0 + i) = M (0 + i) := by
      rw [Nat.zero_add]
      exact va_up_ne M _ (fun q => hi q.symm)
    rw [this]
/-- the machine at a place of a method, over any heap that holds the world with the numbers M -/
def GW (lay : List gDesc) (cl : List vw_C) (D : va_G) (ta : Nat → ClassId) (base : Nat) (p : Program) (l : Launch) (e : Env) (R : Room) (s : State) (m : MethodId) (args : Array Value) (below : List Frame) (meth : Method) (c : Code) (cells slots : Nat) (Q : State → Prop) (nL : Nat) (pc : Nat) (L : List (Nat × Value)) (S : List Value) (M : gMem) : Prop :=
  ∀ (H : Heap) (locs : List Loc) (ls : Array Slot), va_P D cl (gWd base ta M 0 lay) H → va_S (fun q => base ≤ q) s.heap H locs → lv_has ls nL L → W p l e R s m args below meth c H locs cells slots Q (F0 m pc ls S)
/-! the texts that the class names: place, length, bytes -/
def gSbyts : List (List Int32) := [[46, 116, 101, 120, 116], [46, 114, 111, 100, 97, 116, 97], [46, 100, 97, 116, 97], [46, 98, 115, 115], [46, 115, 116, 97, 114, 116, 115], [46, 114, 101, 108, 97, 46, 116, 101, 120, 116], [46, 114, 101, 108, 97, 46, 114, 111, 100, 97, 116, 97], [46, 114, 101, 108, 97, 46, 100, 97, 116, 97], [46, 115, 121, 109, 116, 97, 98], [46, 115, 116, 114, 116, 97, 98], [46, 115, 104, 115, 116, 114, 116, 97, 98]]
def gSlens : List Nat := [5, 7, 5, 4, 7, 10, 12, 10, 7, 7, 9]
def gSrefs : List (String × Nat × String) := [("ObjectFile", 203, ".text"), ("ObjectFile", 205, ".rodata"), ("ObjectFile", 207, ".data"), ("ObjectFile", 209, ".bss"), ("ObjectFile", 211, ".starts"), ("ObjectFile", 213, ".rela.text"), ("ObjectFile", 215, ".rela.rodata"), ("ObjectFile", 217, ".rela.data"), ("ObjectFile", 219, ".symtab"), ("ObjectFile", 221, ".strtab"), ("ObjectFile", 223, ".shstrtab")]
def gSn : Nat := 11
def gSl (k : Nat) : Nat := gSlens.getD k 0
def gSlen (k : Nat) : Int32 := Int32.ofNat (gSl k)
def gSch (k : Nat) (i : Int32) : Int32 := ((((gSbyts.getD k []).getD i.toNatClampNeg 0) &&& 255).toUInt32 % 65536).toInt32
