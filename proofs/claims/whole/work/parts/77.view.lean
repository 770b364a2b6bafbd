/-! choices on numbers, and the file as bytes -/
theorem q_lt {a b : Nat} {A B : Prop} (f : a < b → A) (g : b ≤ a → B) (ha : a < 2 ^ 31 := by omega) (hb : b < 2 ^ 31 := by omega) : (nI a < nI b → A) ∧ (¬ nI a < nI b → B) := by
  rw [nI_ltI ha hb]; exact ⟨f, fun h => g (by omega)⟩
theorem q_le {a b : Nat} {A B : Prop} (f : a ≤ b → A) (g : b < a → B) (ha : a < 2 ^ 31 := by omega) (hb : b < 2 ^ 31 := by omega) : (nI a ≤ nI b → A) ∧ (¬ nI a ≤ nI b → B) := by
  rw [nI_leI ha hb]; exact ⟨f, fun h => g (by omega)⟩
theorem q_eq {a b : Nat} {A B : Prop} (f : a = b → A) (g : a ≠ b → B) (ha : a < 2 ^ 31 := by omega) (hb : b < 2 ^ 31 := by omega) : (nI a = nI b → A) ∧ (¬ nI a = nI b → B) := by
  rw [nI_eq ha hb]; exact ⟨f, g⟩
theorem q_ne {a b : Nat} {A B : Prop} (g : a ≠ b → B) (f : a = b → A) (ha : a < 2 ^ 31 := by omega) (hb : b < 2 ^ 31 := by omega) : (¬ nI a = nI b → B) ∧ (nI a = nI b → A) := by
  rw [nI_eq ha hb]; exact ⟨g, f⟩
theorem ql_lt {a b : Nat} {A B : Prop} (f : a < b → A) (g : b ≤ a → B) (ha : a < 2 ^ 63 := by omega) (hb : b < 2 ^ 63 := by omega) : (lN a < lN b → A) ∧ (¬ lN a < lN b → B) := by
  rw [pk_lLT ha hb]; exact ⟨f, fun h => g (by omega)⟩
theorem ql_le {a b : Nat} {A B : Prop} (f : a ≤ b → A) (g : b < a → B) (ha : a < 2 ^ 63 := by omega) (hb : b < 2 ^ 63 := by omega) : (lN a ≤ lN b → A) ∧ (¬ lN a ≤ lN b → B) := by
  rw [pk_lLE ha hb]; exact ⟨f, fun h => g (by omega)⟩
theorem ql_eq {a b : Nat} {A B : Prop} (f : a = b → A) (g : a ≠ b → B) (ha : a < 2 ^ 63 := by omega) (hb : b < 2 ^ 63 := by omega) : (lN a = lN b → A) ∧ (¬ lN a = lN b → B) := by
  rw [pk_lEQ ha hb]; exact ⟨f, g⟩
theorem ql_ne {a b : Nat} {A B : Prop} (g : a ≠ b → B) (f : a = b → A) (ha : a < 2 ^ 63 := by omega) (hb : b < 2 ^ 63 := by omega) : (¬ lN a = lN b → B) ∧ (lN a = lN b → A) := by
  rw [pk_lEQ ha hb]; exact ⟨g, f⟩
/-- no number is below 0 -/
theorem q_n0 {a : Nat} {A B : Prop} (g : B) (ha : a < 2 ^ 31 := by omega) : (nI a < 0 → A) ∧ (¬ nI a < 0 → B) := ⟨fun h => absurd h (nI_pos ha), fun _ => g⟩
theorem q_b {r : Bool} {A B : Prop} (f : r = false → A) (g : r = true → B) : (bI r = 0 → A) ∧ (¬ bI r = 0 → B) := by
  cases r
  · exact ⟨fun _ => f rfl, fun h => absurd rfl h⟩
  · exact ⟨fun h => absurd h (by decide), fun _ => g rfl⟩
theorem q_bn {r : Bool} {A B : Prop} (g : r = true → B) (f : r = false → A) : (¬ bI r = 0 → B) ∧ (bI r = 0 → A) := ⟨(q_b f g).2, (q_b f g).1⟩
theorem q_d {P : Prop} [Decidable P] {A B : Prop} (f : ¬ P → A) (g : P → B) : (bI (decide P) = 0 → A) ∧ (¬ bI (decide P) = 0 → B) := q_b (fun h => f (by simpa using h)) (fun h => g (by simpa using h))
theorem q_dn {P : Prop} [Decidable P] {A B : Prop} (g : P → B) (f : ¬ P → A) : (¬ bI (decide P) = 0 → B) ∧ (bI (decide P) = 0 → A) := ⟨(q_d f g).2, (q_d f g).1⟩
theorem q_t {p A B : Prop} (h : p) (a : A) : (p → A) ∧ (¬ p → B) := ⟨fun _ => a, fun d => absurd h d⟩
theorem q_f {p A B : Prop} (h : ¬ p) (b : B) : (p → A) ∧ (¬ p → B) := ⟨fun d => absurd d h, fun _ => b⟩
theorem q_t' {p A B : Prop} (h : p) (a : A) : (¬ p → B) ∧ (p → A) := ⟨fun d => absurd h d, fun _ => a⟩
theorem q_f' {p A B : Prop} (h : ¬ p) (b : B) : (¬ p → B) ∧ (p → A) := ⟨fun _ => b, fun d => absurd d h⟩
theorem q_set {M : gMem} {P : gMem → Prop} {M0 : gMem} (h : P M0) : ∀ M1 : gMem, M1 = M0 → P M1 := fun _ e => e ▸ h
theorem q_x {α : Type} {P : α → Prop} {x0 : α} (h : P x0) : ∀ x : α, x = x0 → P x := fun _ e => e ▸ h
def v2 (b : Nat → Fin 256) (p : Nat) : Fin 65536 := ⟨(b p).1 + 256 * (b (p + 1)).1, by omega⟩
def v4 (b : Nat → Fin 256) (p : Nat) : Fin 4294967296 := ⟨(v2 b p).1 + 65536 * (v2 b (p + 2)).1, by omega⟩
theorem v2_e {b : Nat → Fin 256} {p : Nat} : (v2 b p).1 = (b p).1 + 256 * (b (p + 1)).1 := rfl
theorem v4_e {b : Nat → Fin 256} {p : Nat} : (v4 b p).1 = (v2 b p).1 + 65536 * (v2 b (p + 2)).1 := rfl
def rV (n : Nat) (b : Nat → Fin 256) (M : gMem) : Prop := n ≤ 8192 ∧ M 17 1 = nI n ∧ M 41 22 = nI n ∧ (∀ k, n ≤ k → (b k).1 = 0) ∧ (∀ k, k < n → M 18 k &&& 255 = nI (b k).1) ∧ (∀ k, k < n → M 62 k = nI (b k).1)
theorem or8 {a c : Nat} (ha : a < 256) (hc : c < 256) : nI a ||| (nI c <<< ((8 : Int32) &&& 31)) = nI (a + 256 * c) := by
  rw [pk_shlN _ 8 (by decide) (by omega)]
  apply Int32.toBitVec_inj.mp
  apply BitVec.eq_of_toNat_eq
  rw [Int32.toBitVec_or, BitVec.toNat_or, pk_tn (by omega), pk_tn (by omega), pk_tn (by omega), Nat.or_comm, Nat.mul_comm, ← Nat.two_pow_add_eq_or_of_lt (i := 8) (by omega)]
  omega
theorem lN_tn {n : Nat} (h : n < 2 ^ 64) : (lN n).toBitVec.toNat = n := Nat.mod_eq_of_lt h
theorem or16 {a c : Nat} (ha : a < 65536) (hc : c < 65536) : ((nI c).toInt64 <<< ((16 : Int32).toInt64 &&& 63)) ||| (nI a).toInt64 = lN (a + 65536 * c) := by
  rw [nI_l (by omega), nI_l (by omega)]
  have e : lN c <<< ((16 : Int32).toInt64 &&& 63) = lN (2 ^ 16 * c) := by
    apply Int64.toBitVec_inj.mp
    apply BitVec.eq_of_toNat_eq
    rw [Int64.toBitVec_shiftLeft]
    rw [show (((16 : Int32).toInt64 &&& 63).toBitVec.smod 64) = 16#64 by decide]
    rw [BitVec.shiftLeft_eq', BitVec.toNat_shiftLeft, lN_tn (by omega), lN_tn (by omega), Nat.shiftLeft_eq]
    rw [show (16#64).toNat = 16 by decide]
    omega
  rw [e]
  apply Int64.toBitVec_inj.mp
  apply BitVec.eq_of_toNat_eq
  rw [Int64.toBitVec_or, BitVec.toNat_or, lN_tn (by omega), lN_tn (by omega), lN_tn (by omega), ← Nat.two_pow_add_eq_or_of_lt (by omega)]
  omega
theorem k_u1 {n : Nat} {b : Nat → Fin 256} {M : gMem} {post : Int32 → gMem → Prop} {p : Nat} (V : rV n b M) (h : post (nI (b p).1) M) (hp : p < 2 ^ 31 := by omega) : wp_FB_u1 post (nI p) M := by
  obtain ⟨hn, h1, h2, h3, h4, h5⟩ := V
  unfold wp_FB_u1
  rw [h1]
  refine q_n0 (q_lt (fun c => ⟨vp_in_nI (by omega) (by omega), ?_⟩) (fun c => ?_))
  · rw [nI_clamp hp, h4 p c]; exact h
  · rw [h3 p c] at h; exact h
theorem k_u2 {n : Nat} {b : Nat → Fin 256} {M : gMem} {post : Int32 → gMem → Prop} {p : Nat} (V : rV n b M) (h : post (nI (v2 b p).1) M) (hp : p + 1 < n := by omega) : wp_FB_u2 post (nI p) M := by
  obtain ⟨hn, h1, h2, h3, h4, h5⟩ := V
  unfold wp_FB_u2
  rw [h1, nI_1, show nI n - (1 : Int32) = nI (n - 1) from pk_sub (b := 1) (by omega)]
  refine q_n0 (q_lt (fun c => ⟨vp_in_nI (by omega) (by omega), vp_in_nI (by omega) (by omega), ?_⟩) (fun c => by omega))
  rw [nI_clamp (by omega), nI_clamp (by omega), h4 p (by omega), h4 (p + 1) hp, or8 (by omega) (by omega)]
  exact h
theorem k_u4 {n : Nat} {b : Nat → Fin 256} {M : gMem} {post : Int64 → gMem → Prop} {p : Nat} (V : rV n b M) (h : post (lN (v4 b p).1) M) (hp : p + 3 < n := by omega) : wp_FB_u4 post (nI p) M := by
  obtain ⟨hn, h1, h2, h3, h4, h5⟩ := V
  unfold wp_FB_u4
  rw [h1, nI_1, show nI n - (3 : Int32) = nI (n - 3) from pk_sub (b := 3) (by omega), show nI p + (2 : Int32) = nI (p + 2) from nI_add p 2, show nI p + (3 : Int32) = nI (p + 3) from nI_add p 3]
  refine q_n0 (q_lt (fun c => ⟨vp_in_nI (by omega) (by omega), vp_in_nI (by omega) (by omega), fun x1 e1 => ⟨vp_in_nI (by omega) (by omega), vp_in_nI (by omega) (by omega), fun x2 e2 => ?_⟩⟩) (fun c => by omega))
  rw [nI_clamp (by omega), nI_clamp (by omega), h4 _ (by omega), h4 _ (by omega), or8 (by omega) (by omega)] at e1 e2
  rw [e1, e2, or16 (by omega) (by omega)]
  exact h
theorem m_f {n : Nat} {b : Nat → Fin 256} {M : gMem} {p : Nat} (V : rV n b M) (hp : p < n := by omega) : M 62 (nI p).toNatClampNeg = nI (b p).1 := by
  rw [nI_clamp (by have := V.1; omega)]; exact V.2.2.2.2.2 p hp
theorem m_in {n : Nat} {b : Nat → Fin 256} {M : gMem} {p : Nat} (V : rV n b M) (hp : p < n := by omega) : vp_in (nI p) 8192 := vp_in_nI (by have := V.1; omega) (by omega)
theorem m_read2 {n : Nat} {b : Nat → Fin 256} {M : gMem} {post : Int32 → gMem → Prop} {p : Nat} (V : rV n b M) (h : post (nI (v2 b p).1) M) (hp : p + 1 < n := by omega) : wp_MO_read2 post (nI p) M := by
  unfold wp_MO_read2
  rw [nI_1]
  refine ⟨m_in V, m_in V, ?_⟩
  rw [m_f V, m_f V, or8 (by omega) (by omega)]
  exact h
theorem m_read4 {n : Nat} {b : Nat → Fin 256} {M : gMem} {post : Int64 → gMem → Prop} {p : Nat} (V : rV n b M) (h : post (lN (v4 b p).1) M) (hp : p + 3 < n := by omega) : wp_MO_read4 post (nI p) M := by
  unfold wp_MO_read4
  refine m_read2 V ?_
  rw [show nI p + (2 : Int32) = nI (p + 2) from nI_add p 2]
  refine m_read2 V ?_
  rw [nI_l (by omega), nI_l (by omega), show (65536 : Int64) = lN 65536 from rfl, lN_mul, lN_add]
  exact h
/-- what a stage tells: fault and place -/
def tl (M : gMem) (x : Nat × Nat) : gMem := if x.1 = 0 then M else va_up M 32 (upd (M 32) 0 (nI x.2))
def tm (M : gMem) (x : Nat × Nat) : gMem := if x.1 = 0 then M else va_up M 41 (upd (M 41) 23 (nI x.2))
theorem k_tell {post : Int32 → gMem → Prop} {M : gMem} {f p : Nat} (h : post (nI f) (tl M (f, p))) (hf : f ≠ 0 := by omega) : wp_FI_tell post (nI f) (nI p) M := by
  intro M1 e
  rw [tl, if_neg hf] at h
  rw [e]
  exact h
theorem m_fault {post : Int32 → gMem → Prop} {M : gMem} {f p : Nat} (h : post (nI f) (tm M (f, p))) (hf : f ≠ 0 := by omega) : wp_MO_fault post (nI f) (nI p) M := by
  intro M1 e
  rw [tm, if_neg hf] at h
  rw [e]
  exact h
/-- the first fault of a row of stages -/
def fs (g : Nat → Nat × Nat) : Nat → Nat → Nat × Nat
  | 0, _ => (0, 0)
  | d + 1, k => if (g k).1 = 0 then fs g d (k + 1) else g k
def sq (x y : Nat × Nat) : Nat × Nat := if x.1 = 0 then y else x
