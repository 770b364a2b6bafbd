/-! the entries, one by one -/
def hT (n T E N : Nat) : Prop := n ≤ 8192 ∧ 52 ≤ T ∧ T + 40 * E ≤ n ∧ 1 ≤ E ∧ E ≤ 16 ∧ 1 ≤ N ∧ N < E
def kS (n : Nat) (b : Nat → Fin 256) (T E N : Nat) (M : gMem) : Prop := rV n b M ∧ hT n T E N ∧ M 33 7 = nI T ∧ M 33 8 = nI E ∧ M 33 9 = nI N
def mS (n : Nat) (b : Nat → Fin 256) (T E N : Nat) (M : gMem) : Prop := rV n b M ∧ hT n T E N ∧ M 41 39 = nI T ∧ M 41 40 = nI E
def nu (b : Nat → Fin 256) (T e i : Nat) : Fin 4294967296 := v4 b (T + 40 * e + 4 * i)
theorem ix40 {T e i : Nat} : (nI T + (40 : Int32) * nI e) + (4 : Int32) * nI i = nI (T + 40 * e + 4 * i) := by
  rw [show (40 : Int32) = nI 40 from rfl, show (4 : Int32) = nI 4 from rfl, pk_mul, pk_mul, nI_add, nI_add]
theorem k_num {n T E N : Nat} {b : Nat → Fin 256} {M : gMem} {post : Int64 → gMem → Prop} {e i : Nat} (S : kS n b T E N M) (h : post (lN (nu b T e i).1) M) (he : e < E := by omega) (hi : i < 10 := by omega) : wp_DI_numberOf post (nI e) (nI i) M := by
  obtain ⟨V, t, s1, s2, s3⟩ := S
  unfold hT at t
  unfold wp_DI_numberOf
  rw [s1, ix40]
  exact k_u4 V h
theorem k_tellE {n T E N : Nat} {b : Nat → Fin 256} {M : gMem} {post : Int32 → gMem → Prop} {f e i : Nat} (S : kS n b T E N M) (h : post (nI f) (tl M (f, T + 40 * e + 4 * i))) (hf : f ≠ 0 := by omega) : wp_DI_tellEntry post (nI f) (nI e) (nI i) M := by
  unfold wp_DI_tellEntry
  rw [S.2.2.1, ix40]
  exact k_tell h hf
theorem m_told {n T E N : Nat} {b : Nat → Fin 256} {M : gMem} {post : Int64 → gMem → Prop} {e i : Nat} (S : mS n b T E N M) (h : post (lN (nu b T e i).1) M) (he : e < E := by omega) (hi : i < 10 := by omega) : wp_MO_told post (nI e) (nI i) M := by
  obtain ⟨V, t, s1, s2⟩ := S
  unfold hT at t
  unfold wp_MO_told wp_MO_spotOf
  try dsimp only
  rw [s1, ix40]
  exact m_read4 V h
theorem m_spotF {n T E N : Nat} {b : Nat → Fin 256} {M : gMem} {post : Int32 → gMem → Prop} {f e i : Nat} (S : mS n b T E N M) (h : post (nI f) (tm M (f, T + 40 * e + 4 * i))) (hf : f ≠ 0 := by omega) : wp_MO_spotOf (fun r3 M4 => wp_MO_fault (fun r5 M6 => post r5 M6) (nI f) r3 M4) (nI e) (nI i) M := by
  unfold wp_MO_spotOf
  rw [S.2.2.1, ix40]
  exact m_fault h hf
theorem tl_0 {M : gMem} {x : Nat × Nat} (h : x.1 = 0) : tl M x = M := if_pos h
theorem tm_0 {M : gMem} {x : Nat × Nat} (h : x.1 = 0) : tm M x = M := if_pos h
def pw (a : Nat) : Prop := a = 1 ∨ a = 2 ∨ a = 4 ∨ a = 8 ∨ a = 16 ∨ a = 32 ∨ a = 64
def pwD (a : Nat) : Decidable (pw a) := by unfold pw; exact inferInstance
def pwb (a : Nat) : Bool := @decide (pw a) (pwD a)
theorem pwb_t {a : Nat} : pwb a = true ↔ pw a := by unfold pwb; exact @decide_eq_true_iff (pw a) (pwD a)
theorem al_b : ∀ a, a < 65 → 1 ≤ a → ((lN a &&& (lN a - (1 : Int64))) = (0 : Int64) ↔ pwb a = true) := by decide +kernel
theorem k_isAl {M : gMem} {post : Bool → gMem → Prop} {a : Nat} (h : post (pwb a) M) (ha : a < 2 ^ 63 := by omega) : wp_OF_isAlignment post (lN a) M := by
  unfold wp_OF_isAlignment
  have hf : ¬ pw a → pwb a = false := fun c => by
    cases hp : pwb a
    · rfl
    · exact absurd (pwb_t.mp hp) c
  refine ql_lt (b := 1) (fun c => ?_) (fun c => ql_lt (a := 64) (fun d => ?_) (fun d => ?_))
  · rw [hf (by unfold pw; omega)] at h; exact h
  · rw [hf (by unfold pw; omega)] at h; exact h
  · have e := al_b a (by omega) c
    refine ⟨fun q => ?_, fun q => ?_⟩
    · rw [e] at q
      cases hp : pwb a
      · rw [hp] at h; exact h
      · exact absurd hp q
    · rw [e.mp q] at h; exact h
theorem m_isPow {M : gMem} {post : Bool → gMem → Prop} {a : Nat} (h : post (pwb a) M) (ha : a < 2 ^ 31 := by omega) : wp_MO_isPower post (nI a) M := by
  unfold wp_MO_isPower
  have ht : pw a → post true M := fun c => by rw [pwb_t.mpr c] at h; exact h
  refine q_eq (b := 1) (fun c => ht (by unfold pw; omega)) (fun c1 => q_eq (b := 2) (fun c => ht (by unfold pw; omega)) (fun c2 => q_eq (b := 4) (fun c => ht (by unfold pw; omega)) (fun c3 => q_eq (b := 8) (fun c => ht (by unfold pw; omega)) (fun c4 => q_eq (b := 16) (fun c => ht (by unfold pw; omega)) (fun c5 => q_eq (b := 32) (fun c => ht (by unfold pw; omega)) (fun c6 => q_ne (b := 64) (fun c => ?_) (fun c => ht (by unfold pw; omega))))))))
  have : pwb a = false := by
    cases hp : pwb a
    · rfl
    · have := pwb_t.mp hp; unfold pw at this; omega
  rw [this] at h
  exact h
theorem l_and {a : Nat} (k : Nat) (ha : a < 2 ^ 63) (hk : k ≤ 6) : lN a &&& (lN (2 ^ k) - (1 : Int64)) = lN (a % 2 ^ k) := by
  have h2 : 2 ^ k < 2 ^ 63 := Nat.pow_lt_pow_right (by omega) (by omega)
  have h1 : 1 ≤ 2 ^ k := Nat.one_le_two_pow
  rw [show (1 : Int64) = lN 1 from rfl, lN_sub h1]
  apply Int64.toBitVec_inj.mp
  apply BitVec.eq_of_toNat_eq
  have := Nat.mod_lt a (show 0 < 2 ^ k by omega)
  rw [Int64.toBitVec_and, BitVec.toNat_and, lN_tn (by omega), lN_tn (by omega), lN_tn (by omega), Nat.and_two_pow_sub_one_eq_mod]
theorem pw_k {a : Nat} (h : pw a) : ∃ k, k ≤ 6 ∧ a = 2 ^ k := by
  unfold pw at h
  rcases h with h | h | h | h | h | h | h
  · exact ⟨0, by omega, h⟩
  · exact ⟨1, by omega, h⟩
  · exact ⟨2, by omega, h⟩
  · exact ⟨3, by omega, h⟩
  · exact ⟨4, by omega, h⟩
  · exact ⟨5, by omega, h⟩
  · exact ⟨6, by omega, h⟩
theorem l_al {a m : Nat} (h : pw m) (ha : a < 2 ^ 63) : lN a &&& (lN m - (1 : Int64)) = lN (a % m) := by
  obtain ⟨k, hk, rfl⟩ := pw_k h
  exact l_and k ha hk
/-- entry k has bytes between lo and hi -/
def mt (b : Nat → Fin 256) (T lo hi k : Nat) : Prop := (nu b T k 1).1 ≠ 8 ∧ 0 < (nu b T k 5).1 ∧ lo < (nu b T k 4).1 + (nu b T k 5).1 ∧ (nu b T k 4).1 < hi
def mtD (b : Nat → Fin 256) (T lo hi k : Nat) : Decidable (mt b T lo hi k) := by unfold mt; exact inferInstance
/-- some entry from k on, d of them -/
def sh (b : Nat → Fin 256) (T lo hi : Nat) : Nat → Nat → Bool
  | 0, _ => false
  | d + 1, k => if @decide (mt b T lo hi k) (mtD b T lo hi k) = true then true else sh b T lo hi d (k + 1)
theorem sh_t {b : Nat → Fin 256} {T lo hi d k : Nat} (h : mt b T lo hi k) : sh b T lo hi (d + 1) k = true := by
  unfold sh
  rw [if_pos (@decide_eq_true _ (mtD b T lo hi k) h)]
theorem sh_f {b : Nat → Fin 256} {T lo hi d k : Nat} (h : ¬ mt b T lo hi k) : sh b T lo hi (d + 1) k = sh b T lo hi d (k + 1) := by
  show (if _ then _ else _) = _
  rw [if_neg (by rw [@decide_eq_true_iff _ (mtD b T lo hi k)]; exact h)]
theorem k_shl {n T E N : Nat} {b : Nat → Fin 256} {M : gMem} {post : Bool → gMem → Prop} {e lo hi : Nat} (S : kS n b T E N M) (he : e < E) (hlo : lo < 2 ^ 40) (hhi : hi < 2 ^ 40) : ∀ d k, k + d = e → post (sh b T lo hi d k) M → wl_DI_sharesBytes_34 post (d + 1) (nI e) (lN lo) (lN hi) (nI k) M := by
  have t := S.2.1
  unfold hT at t
  intro d
  induction d with
  | zero =>
    intro k hk H
    unfold wl_DI_sharesBytes_34
    exact q_le (fun c => H) (fun c => by omega)
  | succ d ih =>
    intro k hk H
    unfold wl_DI_sharesBytes_34
    refine q_le (fun c => by omega) (fun c => k_num (i := 4) S (k_num (i := 1) S (ql_ne (b := 8) (fun d8 => k_num (i := 5) S ?_) (fun d8 => ?_))))
    · unfold wj_DI_sharesBytes_74
      have go : ¬ mt b T lo hi k → wl_DI_sharesBytes_34 post (d + 1) (nI e) (lN lo) (lN hi) (nI (k + 1)) M := fun q => ih (k + 1) (by omega) (by rw [sh_f q] at H; exact H)
      rw [lN_add]
      refine ql_le (b := 0) (fun c1 => q_x (by rw [nI_1]; exact go (by unfold mt; omega))) (fun c1 => ql_le (fun c2 => q_x (by rw [nI_1]; exact go (by unfold mt; omega))) (fun c2 => ql_le (fun c3 => q_x (by rw [nI_1]; exact go (by unfold mt; omega))) (fun c3 => ?_)))
      rw [sh_t ⟨d8, by omega, by omega, by omega⟩] at H
      exact H
    · unfold wj_DI_sharesBytes_74
      refine ql_le (a := 0) (b := 0) (fun c1 => q_x ?_) (fun c1 => by omega)
      rw [nI_1]
      exact ih (k + 1) (by omega) (by rw [sh_f (by unfold mt; omega)] at H; exact H)
def shA (b : Nat → Fin 256) (T E lo hi e : Nat) : Bool := if lo < T + 40 * E ∧ T < hi then true else sh b T lo hi (e - 1) 1
theorem k_shares {n T E N : Nat} {b : Nat → Fin 256} {M : gMem} {post : Bool → gMem → Prop} {e lo hi : Nat} (S : kS n b T E N M) (he : e < E) (he1 : 1 ≤ e) (hlo : lo < 2 ^ 40) (hhi : hi < 2 ^ 40) (H : post (shA b T E lo hi e) M) : wp_DI_sharesBytes post (nI e) (lN lo) (lN hi) M := by
  have t := S.2.1
  unfold hT at t
  unfold wp_DI_sharesBytes
  unfold shA at H
  rw [S.2.2.1, S.2.2.2.1, show (40 : Int32) = nI 40 from rfl, pk_mul, nI_add, nI_l (by omega), nI_l (by omega)]
  refine ql_le (fun c => ⟨e, ?_⟩) (fun c => ql_le (fun d => ⟨e, ?_⟩) (fun d => ?_))
  · rw [if_neg (by omega)] at H
    have := k_shl S he hlo hhi (e - 1) 1 (by omega) H
    rw [show e - 1 + 1 = e by omega] at this
    exact this
  · rw [if_neg (by omega)] at H
    have := k_shl S he hlo hhi (e - 1) 1 (by omega) H
    rw [show e - 1 + 1 = e by omega] at this
    exact this
  · rw [if_pos (by omega)] at H; exact H
def yE (n : Nat) (b : Nat → Fin 256) (T E e : Nat) : Nat × Nat :=
  if (nu b T e 1).1 = 8 then (if pwb (nu b T e 8).1 = true then (0, 0) else (13, T + 40 * e + 4 * 8))
  else if (nu b T e 1).1 < 1 ∨ 4 < (nu b T e 1).1 then (11, T + 40 * e + 4 * 1)
  else if n < (nu b T e 4).1 + (nu b T e 5).1 ∨ 0 < (nu b T e 5).1 ∧ (nu b T e 4).1 < 52 then (12, T + 40 * e + 4 * 4)
  else if pwb (nu b T e 8).1 = true then (if (nu b T e 4).1 % (nu b T e 8).1 = 0 then (if (nu b T e 5).1 = 0 then (0, 0) else if shA b T E (nu b T e 4).1 ((nu b T e 4).1 + (nu b T e 5).1) e = true then (14, T + 40 * e + 4 * 4) else (0, 0)) else (13, T + 40 * e + 4 * 8))
  else (13, T + 40 * e + 4 * 8)
theorem yE_lt {n : Nat} {b : Nat → Fin 256} {T E e : Nat} : (yE n b T E e).1 < 64 := by
  unfold yE
  repeat' split
  all_goals simp
theorem k_entry {n T E N : Nat} {b : Nat → Fin 256} {M : gMem} {post : Int32 → gMem → Prop} {e : Nat} (S : kS n b T E N M) (he : e < E) (he1 : 1 ≤ e) (H : post (nI (yE n b T E e).1) (tl M (yE n b T E e))) : wp_DI_entryFault post (nI e) M := by
  have t := S.2.1
  unfold hT at t
  unfold wp_DI_entryFault
  unfold yE at H
  refine k_num (i := 1) S (ql_eq (b := 8) (fun c => ?_) (fun c => ?_))
  · rw [if_pos c] at H
    refine q_t rfl (k_num (i := 4) S (k_num (i := 5) S (q_t rfl (k_num (i := 8) S (k_isAl (q_b (fun d => ?_) (fun d => q_t rfl (q_t rfl ?_))))))))
    · rw [if_neg (by rw [d]; simp)] at H
      exact k_tellE (f := 13) (i := 8) S H
    · rw [if_pos d] at H
      exact H
  · rw [if_neg c] at H
    refine q_f (by decide) (ql_lt (b := 1) (fun c1 => ?_) (fun c1 => ql_le (b := 4) (fun c2 => k_num (i := 4) S (k_num (i := 5) S (q_f (by decide) ?_))) (fun c2 => ?_)))
    · rw [if_pos (Or.inl c1)] at H; exact k_tellE (f := 11) (i := 1) S H
    · rw [if_neg (by omega)] at H
      rw [S.1.2.1, nI_l (by omega), lN_add]
      have fin : ¬ (n < (nu b T e 4).1 + (nu b T e 5).1 ∨ 0 < (nu b T e 5).1 ∧ (nu b T e 4).1 < 52) → wj_DI_entryFault_113 post (nI e) (1 : Int32) (lN (nu b T e 4).1) (lN (nu b T e 5).1) M := by
        intro q
        rw [if_neg q] at H
        refine k_num (i := 8) S (k_isAl (q_b (fun d => ?_) (fun d => q_f (by decide) ?_)))
        · rw [if_neg (by rw [d]; simp)] at H; exact k_tellE (f := 13) (i := 8) S H
        · rw [if_pos d] at H
          rw [l_al (pwb_t.mp d) (by omega)]
          have hm : (nu b T e 4).1 % (nu b T e 8).1 ≤ (nu b T e 4).1 := Nat.mod_le _ _
          refine ql_eq (b := 0) (fun d0 => q_f (by decide) (ql_le (b := 0) (fun d1 => ?_) (fun d1 => ?_))) (fun d0 => ?_)
          · rw [if_pos d0, if_pos (by omega)] at H; exact H
          · rw [if_pos d0, if_neg (by omega)] at H
            rw [lN_add]
            refine k_shares S he he1 (by omega) (by omega) (q_b (fun d2 => ?_) (fun d2 => ?_))
            · rw [if_neg (by rw [d2]; simp)] at H; exact H
            · rw [if_pos d2] at H; exact k_tellE (f := 14) (i := 4) S H
          · rw [if_neg d0] at H; exact k_tellE (f := 13) (i := 8) S H
      refine ql_lt (fun d => ?_) (fun d => ql_le (b := 0) (fun d1 => fin (by omega)) (fun d1 => ql_le (a := 52) (fun d2 => fin (by omega)) (fun d2 => ?_)))
      · rw [if_pos (Or.inl d)] at H; exact k_tellE (f := 12) (i := 4) S H
      · rw [if_pos (Or.inr ⟨d1, d2⟩)] at H; exact k_tellE (f := 12) (i := 4) S H
    · rw [if_pos (Or.inr c2)] at H; exact k_tellE (f := 11) (i := 1) S H
def yZ (b : Nat → Fin 256) (T i : Nat) : Nat × Nat := if (nu b T 0 i).1 = 0 then (0, 0) else (11, T + 40 * 0 + 4 * i)
def xEn (n : Nat) (b : Nat → Fin 256) (T E : Nat) : Nat × Nat := sq (fs (yZ b T) 10 0) (fs (yE n b T E) (E - 1) 1)
theorem k_ent2 {n T E N : Nat} {b : Nat → Fin 256} {M : gMem} {post : Int32 → gMem → Prop} (S : kS n b T E N M) : ∀ d k, k + d = E → 1 ≤ k → post (nI (fs (yE n b T E) d k).1) (tl M (fs (yE n b T E) d k)) → wl_DI_entriesFault_36 post (d + 1) (nI k) M := by
  have t := S.2.1
  unfold hT at t
  intro d
  induction d with
  | zero =>
    intro k hk h1 H
    unfold wl_DI_entriesFault_36
    rw [S.2.2.2.1]
    exact q_le (fun c => H) (fun c => by omega)
  | succ d ih =>
    intro k hk h1 H
    unfold wl_DI_entriesFault_36
    rw [S.2.2.2.1]
    have hl := yE_lt (n := n) (b := b) (T := T) (E := E) (e := k)
    unfold fs at H
    refine q_le (fun c => by omega) (fun c => k_entry S (by omega) h1 (q_eq (b := 0) (fun z => q_x ?_) (fun z => ?_)))
    · rw [if_pos z] at H
      rw [nI_1, tl_0 z]
      exact ih (k + 1) (by omega) (by omega) H
    · rw [if_neg z] at H; exact H
theorem k_ent1 {n T E N : Nat} {b : Nat → Fin 256} {M : gMem} {post : Int32 → gMem → Prop} (S : kS n b T E N M) : ∀ d k, k + d = 10 → post (nI (sq (fs (yZ b T) d k) (fs (yE n b T E) (E - 1) 1)).1) (tl M (sq (fs (yZ b T) d k) (fs (yE n b T E) (E - 1) 1))) → wl_DI_entriesFault_2 post (d + 1) (nI k) M := by
  have t := S.2.1
  unfold hT at t
  intro d
  induction d with
  | zero =>
    intro k hk H
    unfold wl_DI_entriesFault_2
    exact q_le (a := 10) (fun c => ⟨E - 1 + 1, k_ent2 S (E - 1) 1 (by omega) (by omega) H⟩) (fun c => by omega)
  | succ d ih =>
    intro k hk H
    unfold wl_DI_entriesFault_2
    rw [sq_fs] at H
    refine q_le (a := 10) (fun c => by omega) (fun c => k_num (e := 0) S (ql_eq (b := 0) (fun z => q_x ?_) (fun z => ?_)))
    · rw [yZ, if_pos z, if_pos rfl] at H
      rw [nI_1]
      exact ih (k + 1) (by omega) H
    · rw [yZ, if_neg z, if_neg (by simp)] at H
      exact k_tellE (f := 11) (e := 0) S H
theorem k_entries {n T E N : Nat} {b : Nat → Fin 256} {M : gMem} {post : Int32 → gMem → Prop} (S : kS n b T E N M) (H : post (nI (xEn n b T E).1) (tl M (xEn n b T E))) : wp_DI_entriesFault post M := ⟨11, k_ent1 S 10 0 (by omega) H⟩
/-! the same, of the reference -/
theorem m_meets {M : gMem} {post : Bool → gMem → Prop} {a k c m : Nat} (h1 : 0 < k ∧ 0 < m ∧ a < c + m ∧ c < a + k → post true M) (h2 : ¬ (0 < k ∧ 0 < m ∧ a < c + m ∧ c < a + k) → post false M) (ha : a < 2 ^ 40 := by omega) (hk : k < 2 ^ 40 := by omega) (hc : c < 2 ^ 40 := by omega) (hm : m < 2 ^ 40 := by omega) : wp_MO_meets post (lN a) (lN k) (lN c) (lN m) M := by
  unfold wp_MO_meets
  rw [lN_add, lN_add]
  exact ql_le (b := 0) (fun d => h2 (by omega)) (fun d => ql_le (b := 0) (fun d => h2 (by omega)) (fun d => ql_le (fun d => h2 (by omega)) (fun d => ql_le (fun d => h2 (by omega)) (fun d => h1 (by omega)))))
theorem m_ent3 {n T E N : Nat} {b : Nat → Fin 256} {M : gMem} {post : Int32 → gMem → Prop} {e : Nat} (S : mS n b T E N M) (he : e < E) (h0 : 0 < (nu b T e 5).1) : ∀ d k, k + d = e → (sh b T (nu b T e 4).1 ((nu b T e 4).1 + (nu b T e 5).1) d k = true → post (nI 14) (tm M (14, T + 40 * e + 4 * 4))) → (sh b T (nu b T e 4).1 ((nu b T e 4).1 + (nu b T e 5).1) d k = false → post (0 : Int32) M) → wl_MO_entryFault_270 post (d + 1) (nI e) (lN (nu b T e 4).1) (lN (nu b T e 5).1) (1 : Int32) (nI k) M := by
  have t := S.2.1
  unfold hT at t
  intro d
  induction d with
  | zero =>
    intro k hk H1 H2
    unfold wl_MO_entryFault_270
    exact q_le (fun c => H2 rfl) (fun c => by omega)
  | succ d ih =>
    intro k hk H1 H2
    unfold wl_MO_entryFault_270
    have go : ¬ mt b T (nu b T e 4).1 ((nu b T e 4).1 + (nu b T e 5).1) k → wl_MO_entryFault_270 post (d + 1) (nI e) (lN (nu b T e 4).1) (lN (nu b T e 5).1) (1 : Int32) (nI (k + 1)) M := fun q => by
      rw [sh_f q] at H1 H2
      exact ih (k + 1) (by omega) H1 H2
    refine q_le (fun c => by omega) (fun c => q_f (by decide) (m_told (i := 1) S (ql_eq (b := 8) (fun c1 => q_x (by rw [nI_1]; exact go (by unfold mt; omega))) (fun c1 => m_told (i := 4) S (m_told (i := 5) S (m_meets (fun m => q_f (by decide) ?_) (fun m => q_t (by decide) (q_x (by rw [nI_1]; exact go (by unfold mt; omega))))))))))
    exact m_spotF (f := 14) (i := 4) S (H1 (sh_t ⟨c1, by omega, by omega, by omega⟩))
theorem m_entry {n T E N : Nat} {b : Nat → Fin 256} {M : gMem} {post : Int32 → gMem → Prop} {e : Nat} (S : mS n b T E N M) (he : e < E) (he1 : 1 ≤ e) (H : post (nI (yE n b T E e).1) (tm M (yE n b T E e))) : wj_MO_entryFault_42 post (nI e) M := by
  have t := S.2.1
  unfold hT at t
  unfold wj_MO_entryFault_42
  unfold yE at H
  refine q_ne (b := 0) (fun _ => m_told (i := 1) S ?_) (fun c => by omega)
  have low : ∀ (P : Prop), ((nu b T e 1).1 = 8 → P) → (¬ (nu b T e 1).1 = 8 → ¬ ((nu b T e 1).1 < 1 ∨ 4 < (nu b T e 1).1) → P) → (¬ (nu b T e 1).1 = 8 → ((nu b T e 1).1 < 1 ∨ 4 < (nu b T e 1).1) → P) → P := fun P f g h => by
    by_cases c : (nu b T e 1).1 = 8
    · exact f c
    · by_cases d : ((nu b T e 1).1 < 1 ∨ 4 < (nu b T e 1).1)
      · exact h c d
      · exact g c d
  have r8 : (nu b T e 1).1 = 8 → wj_MO_entryFault_90 post (nI e) (lN (nu b T e 1).1) M := by
    intro c
    rw [if_pos c] at H
    refine m_told (i := 4) S (m_told (i := 5) S (ql_eq (b := 8) (fun _ => q_t rfl (m_told (i := 8) S ?_)) (fun d => absurd c d)))
    try dsimp only
    rw [lN_i]
    refine ql_lt (a := 64) (fun d => ?_) (fun d => m_isPow (q_b (fun q => ?_) (fun q => q_t rfl (q_t rfl ⟨1, q_le (a := e) (b := 1) (fun _ => ?_) (fun _ => q_t rfl ?_)⟩))))
    · rw [if_neg (by rw [pwb_t]; unfold pw; omega)] at H; exact m_spotF (f := 13) (i := 8) S H
    · rw [if_neg (by rw [q]; simp)] at H; exact m_spotF (f := 13) (i := 8) S H
    · rw [if_pos q] at H; exact H
    · rw [if_pos q] at H; exact H
  have r1 : ¬ (nu b T e 1).1 = 8 → ¬ ((nu b T e 1).1 < 1 ∨ 4 < (nu b T e 1).1) → wj_MO_entryFault_90 post (nI e) (lN (nu b T e 1).1) M := by
    intro c d
    rw [if_neg c, if_neg d] at H
    refine m_told (i := 4) S (m_told (i := 5) S (ql_eq (b := 8) (fun d => absurd d c) (fun _ => q_f (by decide) ?_)))
    rw [S.1.2.2.1, nI_l (by omega), lN_add]
    have fin : ¬ (n < (nu b T e 4).1 + (nu b T e 5).1 ∨ 0 < (nu b T e 5).1 ∧ (nu b T e 4).1 < 52) → wj_MO_entryFault_169 post (nI e) (lN (nu b T e 4).1) (lN (nu b T e 5).1) (1 : Int32) M := by
      intro q
      rw [if_neg q] at H
      refine m_told (i := 8) S ?_
      try dsimp only
      rw [lN_i]
      refine ql_lt (a := 64) (fun d => ?_) (fun d => m_isPow (q_b (fun q => ?_) (fun q => q_f (by decide) ⟨?_, ?_⟩)))
      · rw [if_neg (by rw [pwb_t]; unfold pw; omega)] at H; exact m_spotF (f := 13) (i := 8) S H
      · rw [if_neg (by rw [q]; simp)] at H; exact m_spotF (f := 13) (i := 8) S H
      · have := pwb_t.mp q
        unfold pw at this
        rw [show (0 : Int64) = lN 0 from rfl, pk_lEQ (by omega) (by omega)]
        omega
      · have hp := pwb_t.mp q
        unfold pw at hp
        rw [if_pos q] at H
        rw [pk_lRem (by omega) (by omega) (by omega)]
        have hm : (nu b T e 4).1 % (nu b T e 8).1 ≤ (nu b T e 4).1 := Nat.mod_le _ _
        refine ql_eq (b := 0) (fun d0 => q_f (by decide) ?_) (fun d0 => ?_)
        · rw [if_pos d0] at H
          rw [S.2.2.1, S.2.2.2, nI_l (by omega), nI_l (by omega), show (40 : Int64) = lN 40 from rfl, lN_mul]
          refine m_meets (fun m => q_f (by decide) ?_) (fun m => q_t (by decide) ?_)
          · rw [if_neg (by omega), if_pos (by rw [shA, if_pos (by omega)])] at H
            exact m_spotF (f := 14) (i := 4) S H
          · by_cases z : (nu b T e 5).1 = 0
            · rw [if_pos z] at H
              have go : ∀ d k, k + d = e → wl_MO_entryFault_270 post (d + 1) (nI e) (lN (nu b T e 4).1) (lN (nu b T e 5).1) (1 : Int32) (nI k) M := by
                intro d
                induction d with
                | zero =>
                  intro k hk
                  unfold wl_MO_entryFault_270
                  exact q_le (fun c => H) (fun c => by omega)
                | succ d ih =>
                  intro k hk
                  unfold wl_MO_entryFault_270
                  exact q_le (fun c => by omega) (fun c => q_f (by decide) (m_told (i := 1) S (ql_eq (b := 8) (fun c1 => q_x (by rw [nI_1]; exact ih (k + 1) (by omega))) (fun c1 => m_told (i := 4) S (m_told (i := 5) S (m_meets (fun m => by omega) (fun m => q_t (by decide) (q_x (by rw [nI_1]; exact ih (k + 1) (by omega))))))))))
              exact ⟨_, go (e - 1) 1 (by omega)⟩
            · have es : shA b T E (nu b T e 4).1 ((nu b T e 4).1 + (nu b T e 5).1) e = sh b T (nu b T e 4).1 ((nu b T e 4).1 + (nu b T e 5).1) (e - 1) 1 := by rw [shA, if_neg (by omega)]
              rw [if_neg z, es] at H
              refine ⟨_, m_ent3 S he (by omega) (e - 1) 1 (by omega) (fun q => ?_) (fun q => ?_)⟩
              · rw [if_pos q] at H; exact H
              · rw [if_neg (by rw [q]; simp)] at H; exact H
        · rw [if_neg d0] at H; exact m_spotF (f := 13) (i := 8) S H
    refine ql_lt (fun d => ?_) (fun d => ql_le (b := 0) (fun d1 => fin (by omega)) (fun d1 => ql_le (a := 52) (fun d2 => fin (by omega)) (fun d2 => ?_)))
    · rw [if_pos (Or.inl d)] at H; exact m_spotF (f := 12) (i := 4) S H
    · rw [if_pos (Or.inr ⟨d1, d2⟩)] at H; exact m_spotF (f := 12) (i := 4) S H
  have r0 : ¬ (nu b T e 1).1 = 8 → ((nu b T e 1).1 < 1 ∨ 4 < (nu b T e 1).1) → wj_MO_entryFault_77 post (nI e) M := by
    intro c d
    rw [if_neg c, if_pos d] at H
    exact m_spotF (f := 11) (i := 1) S H
  refine ql_lt (b := 1) (fun c => r0 (by omega) (by omega)) (fun c => ql_le (b := 4) (fun d => r1 (by omega) (by omega)) (fun d => ql_eq (b := 8) (fun q => r8 q) (fun q => r0 q (by omega))))
