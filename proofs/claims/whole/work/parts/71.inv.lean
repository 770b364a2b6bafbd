/-! The invariant: what the class's cells and the reference's have to do with each other -/
def pPow (x : Int32) : Prop := x = 1 ∨ x = 2 ∨ x = 4 ∨ x = 8 ∨ x = 16 ∨ x = 32 ∨ x = 64
/-- sizes and alignments: cb 1 (made) or 9 (read), o 0 or 1 -/
def rSz (cb o : Nat) (M : gMem) : Prop := ∀ s, s < 4 → M (cb + 2) s = M 43 (4 * o + s) ∧ 0 ≤ (M 43 (4 * o + s)).toInt ∧ (M 43 (4 * o + s)).toInt ≤ (if s = 3 then 4096 else 2048) ∧ M (cb + 3) s = M 44 (4 * o + s) ∧ pPow (M 44 (4 * o + s))
def rBy (cb o : Nat) (M : gMem) : Prop := ∀ s k : Nat, s < 3 → (k : Int) < (M 43 (4 * o + s)).toInt → M (cb + 1) (2048 * s + k) &&& 255 = M 42 (6144 * o + 2048 * s + k)
def rSt (cb o : Nat) (M : gMem) : Prop := ∃ n : Nat, n ≤ 1024 ∧ M cb 4 = nI n ∧ M 46 o = nI n ∧ (∀ k, k < n → M (cb + 4) k = M 45 (1024 * o + k) ∧ 0 ≤ (M 45 (1024 * o + k)).toInt ∧ (M 45 (1024 * o + k)).toInt ≤ 2046 ∧ (M 45 (1024 * o + k)).toInt % 2 = 0) ∧ ∀ k, k + 1 < n → (M 45 (1024 * o + k)).toInt < (M 45 (1024 * o + (k + 1))).toInt
def pSymOk (w v z b t n : Int32) : Prop := -1 ≤ w.toInt ∧ w.toInt ≤ 5 ∧ 0 ≤ b.toInt ∧ b.toInt ≤ 2 ∧ 0 ≤ t.toInt ∧ t.toInt ≤ 2 ∧ 1 ≤ n.toInt ∧ n.toInt ≤ 16 ∧ (0 ≤ w.toInt ∧ w.toInt ≤ 3 → 0 ≤ v.toInt ∧ 0 ≤ z.toInt)
def rSy1 (cb o x : Nat) (M : gMem) : Prop := M (cb + 5) (6 * x) = M 47 (100 * o + x) ∧ M (cb + 5) (6 * x + 1) = M 48 (100 * o + x) ∧ M (cb + 5) (6 * x + 2) = M 49 (100 * o + x) ∧ M (cb + 5) (6 * x + 3) = M 50 (100 * o + x) ∧ M (cb + 5) (6 * x + 4) = M 51 (100 * o + x) ∧ M (cb + 5) (6 * x + 5) = M 52 (100 * o + x) ∧ pSymOk (M 47 (100 * o + x)) (M 48 (100 * o + x)) (M 49 (100 * o + x)) (M 50 (100 * o + x)) (M 51 (100 * o + x)) (M 52 (100 * o + x)) ∧ ∀ i : Nat, (i : Int) < (M 52 (100 * o + x)).toInt → M (cb + 6) (16 * x + i) = M 53 (16 * (100 * o + x) + i) ∧ 33 ≤ (M 53 (16 * (100 * o + x) + i)).toInt ∧ (M 53 (16 * (100 * o + x) + i)).toInt ≤ 126
def rSy (cb o : Nat) (M : gMem) : Prop := ∃ n : Nat, n ≤ 100 ∧ M cb 7 = nI n ∧ M 54 o = nI n ∧ ∀ x, x < n → rSy1 cb o x M
def pKind (k : Int32) : Prop := k = 1 ∨ k = 16 ∨ k = 17 ∨ k = 19 ∨ k = 23 ∨ k = 24 ∨ k = 25 ∨ k = 26 ∨ k = 27 ∨ k = 28 ∨ k = 33 ∨ k = 34 ∨ k = 35 ∨ k = 37 ∨ k = 38 ∨ k = 39 ∨ k = 43 ∨ k = 44 ∨ k = 45 ∨ k = 51
def pRelOk (s p k t a : Int32) (ns : Int) : Prop := 0 ≤ s.toInt ∧ s.toInt ≤ 2 ∧ 0 ≤ p.toInt ∧ pKind k ∧ -1 ≤ t.toInt ∧ t.toInt < ns ∧ (k = 43 → 0 ≤ a.toInt ∧ a.toInt ≤ 62)
def rRe1 (cb o x : Nat) (M : gMem) : Prop := M (cb + 7) (5 * x) = M 55 (300 * o + x) ∧ M (cb + 7) (5 * x + 1) = M 56 (300 * o + x) ∧ M (cb + 7) (5 * x + 2) = M 57 (300 * o + x) ∧ M (cb + 7) (5 * x + 3) = M 58 (300 * o + x) ∧ M (cb + 7) (5 * x + 4) = M 59 (300 * o + x) ∧ pRelOk (M 55 (300 * o + x)) (M 56 (300 * o + x)) (M 57 (300 * o + x)) (M 58 (300 * o + x)) (M 59 (300 * o + x)) (M 54 o).toInt
def rRe (cb o : Nat) (M : gMem) : Prop := ∃ n : Nat, n ≤ 300 ∧ M cb 9 = nI n ∧ M 60 o = nI n ∧ ∀ x, x < n → rRe1 cb o x M
def rFi (M : gMem) : Prop := ∃ n : Nat, n ≤ 8192 ∧ M 17 1 = nI n ∧ M 41 22 = nI n ∧ ∀ k, k < n → M 18 k &&& 255 = M 62 k
def rDr (M : gMem) : Prop := ∃ n : Nat, n ≤ 16 ∧ M 0 8 = nI n ∧ M 41 20 = nI n ∧ ∀ k, k < n → M 40 k = M 61 k ∧ 33 ≤ (M 61 k).toInt ∧ (M 61 k).toInt ≤ 126
def rPl (M : gMem) : Prop := M 32 0 = M 41 23
def rFb (M : gMem) : Prop := ∀ c, c ∈ [2, 7, 10, 15, 18, 21, 23, 24, 40] → ∀ k, fits .byte (.int (M c k)) = true
/-- the reference's titles, one behind the other with a 0 behind each -/
def pTi : List Int32 := gSbyts.flatMap (fun l => l ++ [0])
def pTa : List Nat := [0, 6, 14, 20, 25, 33, 44, 57, 68, 76, 84]
def rTi (M : gMem) : Prop := (∀ k, k < 94 → M 63 k = pTi.getD k 0) ∧ ∀ t, t < 11 → M 64 t = nI (pTa.getD t 0)
/-- the read object's starts lie in its .text -/
def rIn (M : gMem) : Prop := ∀ k : Nat, (k : Int) < (M 46 1).toInt → (M 45 (1024 + k)).toInt < (M 43 4).toInt
def rOb (cb o : Nat) (M : gMem) : Prop := rSz cb o M ∧ rBy cb o M ∧ rSt cb o M ∧ rSy cb o M ∧ rRe cb o M
def pInv (M : gMem) : Prop := rOb 1 0 M ∧ rOb 9 1 M ∧ rFi M ∧ rDr M ∧ rPl M ∧ rFb M ∧ rTi M ∧ rIn M
