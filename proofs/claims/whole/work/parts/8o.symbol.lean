/-! the call symbol -/
section
variable {M : gMem}
def smN (M : gMem) (m x : Nat) : Prop := M 52 x = nI m ∧ ∀ i, i < m → M 53 (16 * x + i) = M 61 i
def dupN (M : gMem) (m k : Nat) : Prop := ∃ x, x < k ∧ ¬ M 50 x = 0 ∧ smN M m x
theorem w_fact {post : Int32 → gMem → Prop} {n x k : Nat} (u1 : M 1 7 = nI n) (hn : n ≤ 100) (hx : x < n) (hk : k < 6) (H : post (M 6 (6 * x + k)) M) : wp_CT_symbolFact_m post (nI x) (nI k) M := by
  unfold wp_CT_symbolFact_m
  rw [u1]
  have e6 : nI x * (6 : Int32) + nI k = nI (6 * x + k) := by rw [show (6 : Int32) = nI 6 from rfl, pk_mul, nI_add, Nat.mul_comm]
  rw [e6, nI_clamp (by omega)]
  exact q_n0 (q_le (fun c => by omega) (fun _ => q_n0 (q_lt (b := 6) (fun _ => ⟨vp_in_nI (by omega) (by omega), H⟩) (fun c => by omega))))
theorem w_char {post : Int32 → gMem → Prop} {n x i l : Nat} (u1 : M 1 7 = nI n) (hn : n ≤ 100) (hx : x < n) (hl : M 6 (6 * x + 5) = nI l) (hi : i < l) (hl2 : l ≤ 16) (H : post (M 7 (16 * x + i)) M) : wp_CT_nameCharacter_m post (nI x) (nI i) M := by
  unfold wp_CT_nameCharacter_m
  refine q_n0 (w_fact (k := 5) u1 hn hx (by omega) ?_)
  rw [hl, show nI x * (16 : Int32) + nI i = nI (16 * x + i) by rw [show (16 : Int32) = nI 16 from rfl, pk_mul, nI_add, Nat.mul_comm], nI_clamp (by omega)]
  exact q_lt (fun _ => ⟨vp_in_nI (by omega) (by omega), H⟩) (fun c => by omega)
theorem w_hasName {post : Bool → gMem → Prop} {n m x : Nat} (u1 : M 1 7 = nI n) (hn : n ≤ 100) (hx : x < n) (r : rSy1 1 0 x M) (hm : m ≤ 16) (hd : ∀ i, i < m → M 40 i = M 61 i) (h1 : smN M m x → post true M) (h2 : ¬ smN M m x → post false M) : wp_CT_hasName_m_40 post (nI x) (nI m) M := by
  unfold rSy1 at r
  rw [show 100 * 0 + x = x by omega] at r
  obtain ⟨r1, r2, r3, r4, r5, r6, ok, rn⟩ := r
  have r6' : M 6 (6 * x + 5) = M 52 x := r6
  unfold wp_CT_hasName_m_40
  refine w_fact (k := 5) u1 hn hx (by omega) ⟨fun c => h2 (fun w => c (r6'.trans w.1)), fun c => q_le (b := 16) (fun _ => ?_) (fun c => by omega)⟩
  have go : ∀ d i, i + d = m → (∀ j, j < i → M 53 (16 * x + j) = M 61 j) → wl_CT_hasName_m_40_21 post (d + 1) (nI x) (nI m) (nI i) M := by
    intro d
    induction d with
    | zero =>
      intro i hi he
      unfold wl_CT_hasName_m_40_21
      exact q_le (fun _ => h1 ⟨r6'.symm.trans c, fun j hj => he j (by omega)⟩) (fun c => by omega)
    | succ d ih =>
      intro i hi he
      unfold wl_CT_hasName_m_40_21
      refine q_le (fun c => by omega) (fun _ => w_char u1 hn hx c (by omega) hm ⟨vp_in_nI (by omega) (by omega), ?_⟩)
      have e7 : M 7 (16 * x + i) = M 53 (16 * x + i) := (rn i (by rw [← r6', c, ti_nI (by omega)]; omega)).1
      rw [nI_clamp (by omega), e7, hd i (by omega)]
      refine ⟨fun e => q_x ?_, fun e => h2 (fun w => e (w.2 i (by omega)))⟩
      rw [nI_1]
      refine ih (i + 1) (by omega) (fun j hj => ?_)
      by_cases cj : j = i
      · rw [cj]; exact e
      · exact he j (by omega)
  exact ⟨m + 1, go m 0 (by omega) (fun j hj => by omega)⟩
theorem w_hasG {post : Bool → gMem → Prop} {n m : Nat} (u1 : M 1 7 = nI n) (hn : n ≤ 100) (r : ∀ x, x < n → rSy1 1 0 x M) (hm : m ≤ 16) (hd : ∀ i, i < m → M 40 i = M 61 i) (h1 : dupN M m n → post true M) (h2 : ¬ dupN M m n → post false M) : wp_CT_hasGlobal_m_40 post (nI m) M := by
  have go : ∀ d k, k + d = n → ¬ dupN M m k → wl_CT_hasGlobal_m_40_2 post (d + 1) (nI m) (nI k) M := by
    intro d
    induction d with
    | zero =>
      intro k hk no
      unfold wl_CT_hasGlobal_m_40_2
      rw [u1]
      have e : k = n := by omega
      subst e
      exact q_le (fun _ => h2 no) (fun c => by omega)
    | succ d ih =>
      intro k hk no
      unfold wl_CT_hasGlobal_m_40_2
      have rk := r k (by omega)
      have r4 : M 6 (6 * k + 3) = M 50 k := by
        have := rk.2.2.2.1
        rw [show 100 * 0 + k = k by omega] at this
        exact this
      rw [u1]
      refine q_le (fun c => by omega) (fun _ => w_fact (k := 3) u1 hn (by omega) (by omega) ?_)
      rw [r4, nI_1]
      have step : ¬ (¬ M 50 k = 0 ∧ smN M m k) → ¬ dupN M m (k + 1) := by
        rintro a ⟨x, hx, a1, a2⟩
        by_cases cx : x = k
        · subst cx; exact a ⟨a1, a2⟩
        · exact no ⟨x, by omega, a1, a2⟩
      refine ⟨fun c => q_x (ih (k + 1) (by omega) (step (fun w => w.1 c))), fun c => w_hasName u1 hn (by omega) rk hm hd (fun w => q_f (by decide) (h1 ⟨k, by omega, c, w⟩)) (fun w => q_t rfl (q_x (ih (k + 1) (by omega) (step (fun v => w v.2)))))⟩
  exact ⟨n + 1, go n 0 (by omega) (by rintro ⟨x, hx, _⟩; omega)⟩
theorem m_sameN {post : Bool → gMem → Prop} {M0 : gMem} {n m x : Nat} (hn : n < 100) (hx : x < n) (hm : m ≤ 16) (a1 : M 52 n = nI m) (a2 : ∀ i, i < m → M 53 (16 * n + i) = M0 61 i) (a3 : M 52 x = M0 52 x) (a4 : ∀ i, i < m → M 53 (16 * x + i) = M0 53 (16 * x + i)) (h1 : smN M0 m x → post true M) (h2 : ¬ smN M0 m x → post false M) : wp_MO_isSameName post (nI n) (nI x) M := by
  unfold wp_MO_isSameName
  rw [nI_clamp (by omega), nI_clamp (by omega), a1, a3]
  have v1 : vp_in (nI n) 200 := vp_in_nI (by omega) (by omega)
  refine ⟨v1, vp_in_nI (by omega) (by omega), fun c => ?_, fun c => ?_⟩
  · have hp := h2 (fun w => c w.1.symm)
    refine ⟨1, ?_⟩
    unfold wl_MO_isSameName_24
    exact ⟨v1, fun _ => ⟨false, rfl, hp⟩, fun _ => q_t rfl ⟨false, rfl, hp⟩⟩
  · have go : ∀ d i, i + d = m → (∀ j, j < i → M0 53 (16 * x + j) = M0 61 j) → wl_MO_isSameName_24 post (d + 2) (nI n) (nI x) (1 : Int32) (nI i) M := by
      intro d
      induction d with
      | zero =>
        intro i hi he
        unfold wl_MO_isSameName_24
        rw [nI_clamp (by omega), a1]
        exact ⟨v1, q_le (fun _ => ⟨true, rfl, h1 ⟨c.symm, fun j hj => he j (by omega)⟩⟩) (fun c => by omega)⟩
      | succ d ih =>
        intro i hi he
        unfold wl_MO_isSameName_24
        rw [nI_clamp (by omega), a1, show (16 : Int32) * nI n + nI i = nI (16 * n + i) by rw [show (16 : Int32) = nI 16 from rfl, pk_mul, nI_add], show (16 : Int32) * nI x + nI i = nI (16 * x + i) by rw [show (16 : Int32) = nI 16 from rfl, pk_mul, nI_add], nI_clamp (show 16 * n + i < 2 ^ 31 by omega), nI_clamp (show 16 * x + i < 2 ^ 31 by omega), a2 i (by omega), a4 i (by omega)]
        refine ⟨v1, q_le (fun c => by omega) (fun _ => q_f (by decide) ⟨vp_in_nI (by omega) (by omega), vp_in_nI (by omega) (by omega), fun e => q_x ?_, fun e => q_x ?_⟩)⟩
        · have hp := h2 (fun w => e (w.2 i (by omega)).symm)
          unfold wl_MO_isSameName_24
          exact ⟨v1, fun _ => ⟨false, rfl, hp⟩, fun _ => q_t rfl ⟨false, rfl, hp⟩⟩
        · rw [nI_1]
          refine ih (i + 1) (by omega) (fun j hj => ?_)
          by_cases cj : j = i
          · rw [cj]; exact e.symm
          · exact he j (by omega)
    exact ⟨m + 2, go m 0 (by omega) (fun j hj => by omega)⟩
/-- the reference's rows that no symbol has yet -/
def sRow (n c j : Nat) : Prop := (c = 41 ∧ j = 20) ∨ (c = 52 ∧ j = n) ∨ (c = 53 ∧ 16 * n ≤ j ∧ j < 16 * n + 16)
def bdOk (d t : Int32) : Prop := ¬ d < 0 ∧ ¬ (2 : Int32) < d ∧ ¬ t < 0 ∧ ¬ (2 : Int32) < t
theorem m_symb {post : Int32 → gMem → Prop} {n m : Nat} {w v z d t : Int32} (u2 : M 54 0 = nI n) (hn : n ≤ 100) (dl : M 41 20 = nI m) (hm : m ≤ 16)
    (h1 : n < 100 → m ≠ 0 → (¬ w < -1 ∧ ¬ (5 : Int32) < w) → bdOk d t → syOk w v z d → ¬ (¬ d = 0 ∧ dupN M m n) → ∀ M', fr (sRow n) M M' → M' 52 n = nI m → (∀ i, i < m → M' 53 (16 * n + i) = M 61 i) → M' 41 20 = 0 → ∀ M7 : gMem, M7 = va_up M' 47 (upd (M' 47) n w) → ∀ M8 : gMem, M8 = va_up M7 48 (upd (M7 48) n v) → ∀ M9 : gMem, M9 = va_up M8 49 (upd (M8 49) n z) → ∀ M10 : gMem, M10 = va_up M9 50 (upd (M9 50) n d) → ∀ M11 : gMem, M11 = va_up M10 51 (upd (M10 51) n t) → ∀ M12 : gMem, M12 = va_up M11 54 (upd (M11 54) 0 (nI (n + 1))) → post (nI n) M12)
    (h2 : (n = 100 ∨ m = 0 ∨ ¬ (¬ w < -1 ∧ ¬ (5 : Int32) < w) ∨ ¬ bdOk d t ∨ ¬ syOk w v z d ∨ (¬ d = 0 ∧ dupN M m n)) → ∀ M', fr (fun c j => (c = 41 ∧ j = 20) ∨ (n < 100 ∧ sRow n c j)) M M' → M' 41 20 = 0 → post (-1) M') : wp_MO_symbol post w v z d t M := by
  unfold wp_MO_symbol
  rw [dl]
  refine q_x (fun M2 e2 => ⟨in_02, ?_⟩)
  rw [cl_0, show M2 54 0 = nI n by rw [u_ne e2]; exact u2]
  have f2 : fr (fun c j => (c = 41 ∧ j = 20) ∨ (n < 100 ∧ sRow n c j)) M M2 := by rw [e2]; exact fr_upd (Or.inl ⟨rfl, rfl⟩)
  have z2 : M2 41 20 = 0 := u_at e2
  refine q_x (q_eq (b := 100) (fun c => h2 (Or.inl c) M2 f2 z2) (fun cn => q_eq (b := 0) (fun c => h2 (Or.inr (Or.inl c)) M2 f2 z2) (fun cm => ⟨fun c => h2 (Or.inr (Or.inr (Or.inl (fun o => o.1 c)))) M2 f2 z2, fun w1 => ⟨fun c => h2 (Or.inr (Or.inr (Or.inl (fun o => o.2 c)))) M2 f2 z2, fun w2 => ⟨fun c => h2 (Or.inr (Or.inr (Or.inr (Or.inl (fun o => o.1 c))))) M2 f2 z2, fun d1 => ⟨fun c => h2 (Or.inr (Or.inr (Or.inr (Or.inl (fun o => o.2.1 c))))) M2 f2 z2, fun d2 => ⟨fun c => h2 (Or.inr (Or.inr (Or.inr (Or.inl (fun o => o.2.2.1 c))))) M2 f2 z2, fun t1 => ⟨fun t2 => ?_, fun c => h2 (Or.inr (Or.inr (Or.inr (Or.inl (fun o => ?_))))) M2 f2 z2⟩⟩⟩⟩⟩⟩)))
  · have ok : bdOk d t := ⟨d1, d2, t1, by rw [ti_lt]; rw [ti_le] at t2; omega⟩
    have hin : vp_in (nI n) 200 := vp_in_nI (by omega) (by omega)
    rw [nI_clamp (by omega)]
    refine ⟨hin, fun M4 e4 => ?_⟩
    have f4 : fr (sRow n) M M4 := (show fr (sRow n) M M2 by rw [e2]; exact fr_upd (Or.inl ⟨rfl, rfl⟩)).trans (by rw [e4]; exact fr_upd (Or.inr (Or.inl ⟨rfl, rfl⟩)))
    refine pk_loop (fun k i M' => wl_MO_symbol_77 post k w v z d t (nI m) (nI n) (nI i) M') (fun i M' => fr (sRow n) M M' ∧ M' 52 n = nI m ∧ (∀ j, j < i → M' 53 (16 * n + j) = M 61 j) ∧ M' 41 20 = 0) m 0 M4 (by omega) ⟨f4, u_at e4, fun j hj => by omega, by rw [u_ne e4]; exact z2⟩ ?_ ?_
    · rintro k M5 ⟨g1, g2, g3, g4⟩
      unfold wl_MO_symbol_77
      refine q_le (fun _ => ?_) (fun c => by omega)
      have f5 : fr (fun c j => (c = 41 ∧ j = 20) ∨ (n < 100 ∧ sRow n c j)) M M5 := g1.mono fun c j q => Or.inr ⟨by omega, q⟩
      have go : ∀ dd x, x + dd = n → (¬ d = 0 → ¬ dupN M m x) → wl_MO_symbol_113 post (dd + 1) w v z d t (nI n) (nI x) M5 := by
        intro dd
        induction dd with
        | zero =>
          intro x hx no
          have e : x = n := by omega
          subst e
          unfold wl_MO_symbol_113
          refine q_le (fun _ => m_isSymbol (fun o => q_f' (by decide) ?_) (fun o => q_t' rfl (h2 (Or.inr (Or.inr (Or.inr (Or.inr (Or.inl o))))) M5 f5 g4))) (fun c => by omega)
          rw [nI_clamp (by omega), cl_0]
          refine ⟨hin, fun M7 e7 => ⟨hin, fun M8 e8 => ⟨hin, fun M9 e9 => ⟨hin, fun M10 e10 => ⟨hin, fun M11 e11 => ⟨in_02, in_02, fun M12 e12 => ?_⟩⟩⟩⟩⟩⟩
          rw [show M11 54 0 = nI x by rw [u_ne e11, u_ne e10, u_ne e9, u_ne e8, u_ne e7, g1 54 0 (by unfold sRow; omega)]; exact u2, nI_1] at e12
          exact h1 (by omega) cm ⟨w1, w2⟩ ok o (fun q => no q.1 q.2) M5 g1 g2 g3 g4 M7 e7 M8 e8 M9 e9 M10 e10 M11 e11 M12 e12
        | succ dd ih =>
          intro x hx no
          unfold wl_MO_symbol_113
          rw [nI_1, nI_clamp (show x < 2 ^ 31 by omega)]
          have e50 : M5 50 x = M 50 x := g1 50 x (by unfold sRow; omega)
          rw [e50]
          refine q_le (fun c => by omega) (fun _ => ⟨fun c => q_x (ih (x + 1) (by omega) (fun q => absurd c q)), fun c => ⟨vp_in_nI (by omega) (by omega), ?_⟩⟩)
          have step : ¬ (¬ M 50 x = 0 ∧ smN M m x) → ¬ dupN M m (x + 1) := by
            rintro a ⟨y, hy, a1, a2⟩
            by_cases cy : y = x
            · subst cy; exact a ⟨a1, a2⟩
            · exact no c ⟨y, by omega, a1, a2⟩
          refine ⟨fun c5 => q_x (ih (x + 1) (by omega) (fun _ => step (fun q => q.1 c5))), fun c5 => m_sameN (M0 := M) (by omega) (by omega) hm g2 g3 (g1 52 x (by unfold sRow; omega)) (fun i hi => g1 53 _ (by unfold sRow; omega)) (fun s => q_f (by decide) ?_) (fun s => q_t rfl (q_x (ih (x + 1) (by omega) (fun _ => step (fun q => s q.2)))))⟩
          exact h2 (Or.inr (Or.inr (Or.inr (Or.inr (Or.inr ⟨c, x, by omega, c5, s⟩))))) M5 f5 g4
      exact ⟨n + 1, go n 0 (by omega) (fun _ => by rintro ⟨y, hy, _⟩; omega)⟩
    · rintro k i M5 hi ⟨g1, g2, g3, g4⟩ K
      unfold wl_MO_symbol_77
      rw [show (16 : Int32) * nI n + nI i = nI (16 * n + i) by rw [show (16 : Int32) = nI 16 from rfl, pk_mul, nI_add], nI_clamp (by omega), nI_clamp (by omega), nI_1]
      refine q_le (fun c => by omega) (fun _ => ⟨vp_in_nI (by omega) (by omega), vp_in_nI (by omega) (by omega), fun M6 e6 => q_x ?_⟩)
      rw [show M5 61 i = M 61 i from g1 61 i (by unfold sRow; omega)] at e6
      refine K M6 ⟨g1.trans (by rw [e6]; exact fr_upd (by unfold sRow; omega)), by rw [u_ne e6]; exact g2, fun j hj => ?_, by rw [u_ne e6]; exact g4⟩
      by_cases cj : j = i
      · subst cj; exact u_at e6
      · rw [u_ne e6]; exact g3 j (by omega)
  · have := o.2.2.2
    rw [ti_lt] at this
    rw [ti_le] at c
    omega
end
