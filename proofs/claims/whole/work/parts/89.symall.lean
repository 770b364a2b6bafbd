/-! all symbols -/
section
variable {n T E N : Nat} {b : Nat → Fin 256} {M : gMem} {q B W G : Nat → Nat}
def yS0 (b : Nat → Fin 256) (B : Nat → Nat) (k : Nat) : Nat × Nat := if (b (B 8 + k)).1 = 0 then (0, 0) else (21, B 8 + k)
def clx (b : Nat → Fin 256) (B : Nat → Nat) : Nat → Nat
  | 0 => 0
  | k + 1 => clx b B k + if 1 ≤ k ∧ bd b (B 8 + 16 * k) = 0 then 1 else 0
theorem clx_lt : ∀ x, clx b B x ≤ x := by
  intro x
  induction x with
  | zero => exact Nat.le_refl 0
  | succ k ih => unfold clx; split <;> omega
def yIn (b : Nat → Fin 256) (T o8 : Nat) (B : Nat → Nat) (R : Nat) : Nat × Nat := if (nu b T o8 7).1 = 1 + clx b B R then (0, 0) else (28, T + 40 * o8 + 4 * 7)
def xSy (b : Nat → Fin 256) (T E : Nat) (q B W : Nat → Nat) : Nat × Nat := sq (fs (yS0 b B) 16 0) (sq (fs (ySy b q E B W) (W 8 / 16 - 1) 1) (yIn b T (eo q E 8) B (W 8 / 16)))
theorem ySy_0 {x : Nat} (h : (ySy b q E B W x).1 = 0) : vn b B W x ∧ bd b (B 8 + 16 * x) ≤ 2 ∧ ty b (B 8 + 16 * x) ≤ 2 ∧ ¬ (bd b (B 8 + 16 * x) = 0 ∧ 1 < x ∧ bd b (B 8 + 16 * (x - 1)) ≠ 0) ∧ whc q E (v2 b (B 8 + 16 * x + 14)).1 ≠ 6 ∧ flc W (whc q E (v2 b (B 8 + 16 * x + 14)).1) (v4 b (B 8 + 16 * x + 4)).1 (v4 b (B 8 + 16 * x + 8)).1 (bd b (B 8 + 16 * x)) = 0 := by
  unfold ySy at h
  by_cases c1 : (v4 b (B 8 + 16 * x)).1 < W 9 ∧ nlc b (np b B x) ≠ 0
  · rw [if_pos c1] at h
    by_cases c2 : bd b (B 8 + 16 * x) ≤ 2 ∧ ty b (B 8 + 16 * x) ≤ 2
    · rw [if_pos c2] at h
      by_cases c3 : (b (B 8 + 16 * x + 13)).1 = 0
      · rw [if_pos c3] at h
        by_cases c4 : bd b (B 8 + 16 * x) = 0 ∧ 1 < x ∧ bd b (B 8 + 16 * (x - 1)) ≠ 0
        · rw [if_pos c4] at h; exact absurd h (by simp)
        · rw [if_neg c4] at h
          by_cases c5 : whc q E (v2 b (B 8 + 16 * x + 14)).1 = 6
          · rw [if_pos c5] at h; exact absurd h (by simp)
          · rw [if_neg c5] at h
            by_cases c6 : flc W (whc q E (v2 b (B 8 + 16 * x + 14)).1) (v4 b (B 8 + 16 * x + 4)).1 (v4 b (B 8 + 16 * x + 8)).1 (bd b (B 8 + 16 * x)) = 0
            · exact ⟨c1, c2.1, c2.2, c4, c5, c6⟩
            · rw [if_neg c6] at h; exact absurd h (by simp)
      · rw [if_neg c3] at h; exact absurd h (by simp)
    · rw [if_neg c2] at h; exact absurd h (by simp)
  · rw [if_neg c1] at h; exact absurd h (by simp)
theorem iL_next {L x : Nat} (hx : 1 ≤ x) (I : iL b B L x) (hc : ¬ (bd b (B 8 + 16 * x) = 0 ∧ 1 < x ∧ bd b (B 8 + 16 * (x - 1)) ≠ 0)) : iL b B (L + if bd b (B 8 + 16 * x) = 0 then 1 else 0) (x + 1) := by
  obtain ⟨i1, i2, i3⟩ := I
  by_cases c : bd b (B 8 + 16 * x) = 0
  · rw [if_pos c]
    have hL : L + 1 = x := by
      by_cases d : L + 1 = x
      · exact d
      · exact absurd ⟨c, by omega, i3 (x - 1) (by omega) (by omega)⟩ hc
    refine ⟨by omega, fun y a1 a2 => ?_, fun y a1 a2 => by omega⟩
    by_cases e : y = x
    · rw [e]; exact c
    · exact i2 y a1 (by omega)
  · rw [if_neg c]
    refine ⟨by omega, fun y a1 a2 => i2 y a1 (by omega), fun y a1 a2 => ?_⟩
    by_cases e : y = x
    · rw [e]; exact c
    · exact i3 y (by omega) (by omega)
theorem k_symL {post : Int32 → gMem → Prop} {R : Nat} (hR : B 8 + 16 * R ≤ n) (hn : n ≤ 8192) : ∀ d x (M : gMem) L, x + d = R → 1 ≤ x → kX n b T E N q B W G M → M 39 3 = nI L → iL b B L x → L = clx b B x → (∀ y, 1 ≤ y → y < x → vn b B W y) → (∀ M', fr s39 M M' → ((sq (fs (ySy b q E B W) d x) (yIn b T (eo q E 8) B R)).1 = 0 → M' 32 0 = M 32 0) → ((sq (fs (ySy b q E B W) d x) (yIn b T (eo q E 8) B R)).1 ≠ 0 → M' 32 0 = nI (sq (fs (ySy b q E B W) d x) (yIn b T (eo q E 8) B R)).2) → post (nI (sq (fs (ySy b q E B W) d x) (yIn b T (eo q E 8) B R)).1) M') → wl_RE_symbolsFault_61 post (d + 1) (nI (B 8)) (nI R) (nI x) M := by
  intro d
  induction d with
  | zero =>
    intro x M L hx h1 X h39 I hL hv H
    have t := X.1.2.1
    unfold hT at t
    have e : x = R := by omega
    subst e
    unfold wl_RE_symbolsFault_61
    have ho := eo_lt (q := q) (e := E) (p := 8) (by omega)
    have hc := clx_lt (b := b) (B := B) x
    rw [cl_8, X.2.1.1 8 (by omega)]
    refine q_le (fun _ => ⟨in_8, fun x5 e5 => ?_⟩) (fun c => by omega)
    subst e5
    refine k_num (i := 7) X.1 ?_
    try dsimp only
    rw [h39, hL, show (1 : Int32) = nI 1 from rfl, nI_add, nI_l (by omega)]
    rw [sq_f0, yIn] at H
    refine ql_eq (fun c => ?_) (fun c => ?_)
    · rw [if_pos c] at H
      exact H M fr.refl (fun _ => rfl) (fun z => absurd rfl z)
    · rw [if_neg c] at H
      exact k_tellE (f := 28) (i := 7) X.1 (H _ (tl_fr (Or.inl rfl)) (fun z => absurd z (by simp)) (fun _ => tl_rC.2.2 (by simp)))
  | succ d ih =>
    intro x M L hx h1 X h39 I hL hv H
    have t := X.1.2.1
    unfold hT at t
    unfold wl_RE_symbolsFault_61
    rw [sq_fs] at H
    have hb := ySy_b (b := b) (q := q) (E := E) (B := B) (W := W) (x := x)
    rw [show (16 : Int32) = nI 16 from rfl, pk_mul, nI_add]
    refine q_le (fun c => by omega) (fun c => k_symF X h1 (by omega) h39 I hv (fun M1 f1 a1 a2 => q_eq (b := 0) (fun z => q_x ?_) (fun z => ?_)))
    · rw [if_pos z] at H
      rw [nI_1]
      have y0 := ySy_0 z
      obtain ⟨g1, g2⟩ := a1 z
      refine ih (x + 1) M1 _ (by omega) (by omega) (kX_fr f1 X) g2 (iL_next h1 I y0.2.2.2.1) ?_ (fun y b1 b2 => ?_) (fun M' f b1 b2 => H M' (f1.trans f) (fun w => (b1 w).trans g1) b2)
      · rw [hL]
        show _ = clx b B x + if 1 ≤ x ∧ bd b (B 8 + 16 * x) = 0 then 1 else 0
        by_cases c2 : bd b (B 8 + 16 * x) = 0
        · rw [if_pos c2, if_pos ⟨h1, c2⟩]
        · rw [if_neg c2, if_neg (fun w => c2 w.2)]
      · by_cases b3 : y = x
        · rw [b3]; exact y0.1
        · exact hv y b1 (by omega)
    · rw [if_neg z] at H
      exact H M1 f1 (fun w => absurd w z) a2
theorem k_syms {post : Int32 → gMem → Prop} (X : kX n b T E N q B W G M) (H : ∀ M', fr s39 M M' → ((xSy b T E q B W).1 = 0 → M' 32 0 = M 32 0) → ((xSy b T E q B W).1 ≠ 0 → M' 32 0 = nI (xSy b T E q B W).2) → post (nI (xSy b T E q B W).1) M') : wp_RE_symbolsFault post M := by
  have t := X.1.2.1
  unfold hT at t
  have h8 := X.2.2.1.1 8 (by omega) (by omega)
  have hw := X.2.2.1.2.1
  unfold wp_RE_symbolsFault
  refine ⟨in_8, fun x1 e1 => ?_⟩
  rw [cl_8, (X.2.2.2.2 8 (by omega)).1] at e1
  subst e1
  have go : ∀ d k, k + d = 16 → (∀ M', fr s39 M M' → ((sq (fs (yS0 b B) d k) (sq (fs (ySy b q E B W) (W 8 / 16 - 1) 1) (yIn b T (eo q E 8) B (W 8 / 16)))).1 = 0 → M' 32 0 = M 32 0) → ((sq (fs (yS0 b B) d k) (sq (fs (ySy b q E B W) (W 8 / 16 - 1) 1) (yIn b T (eo q E 8) B (W 8 / 16)))).1 ≠ 0 → M' 32 0 = nI (sq (fs (yS0 b B) d k) (sq (fs (ySy b q E B W) (W 8 / 16 - 1) 1) (yIn b T (eo q E 8) B (W 8 / 16)))).2) → post (nI (sq (fs (yS0 b B) d k) (sq (fs (ySy b q E B W) (W 8 / 16 - 1) 1) (yIn b T (eo q E 8) B (W 8 / 16)))).1) M') → wl_RE_symbolsFault_13 post (d + 1) (nI (B 8)) (nI (B 8 + k)) M := by
    intro d
    induction d with
    | zero =>
      intro k hk H
      unfold wl_RE_symbolsFault_13
      rw [i16]
      rw [sq_f0] at H
      refine q_le (fun _ M1 e1 => ⟨in_8, ?_⟩) (fun c => by omega)
      have f1 : fr s39 M M1 := e1 ▸ fr_upd (Or.inr rfl)
      have X1 := kX_fr f1 X
      have g0 : M1 32 0 = M 32 0 := by rw [e1]; rfl
      rw [cl_8, (X1.2.2.2.2 8 (by omega)).2, show nI (W 8) / (16 : Int32) = nI (W 8 / 16) from pk_div (d := 16) (by omega) (by omega) (by omega)]
      refine ⟨W 8 / 16 - 1 + 1, k_symL (by omega) (by omega) (W 8 / 16 - 1) 1 M1 0 (by omega) (by omega) X1 (by rw [e1]; rfl) ⟨by omega, fun y a1 a2 => by omega, fun y a1 a2 => by omega⟩ (by simp [clx]) (fun y a1 a2 => by omega) (fun M' f b1 b2 => H M' (f1.trans f) (fun w => (b1 w).trans g0) b2)⟩
    | succ d ih =>
      intro k hk H
      unfold wl_RE_symbolsFault_13
      rw [i16]
      rw [sq_fs] at H
      refine q_le (fun c => by omega) (fun c => k_u1 X.1.1 (q_eq (b := 0) (fun z => q_x ?_) (fun z => ?_)))
      · rw [yS0, if_pos z, if_pos rfl] at H
        rw [nI_1]
        exact ih (k + 1) (by omega) H
      · rw [yS0, if_neg z, if_neg (by simp)] at H
        exact k_tell (f := 21) (H _ (tl_fr (Or.inl rfl)) (fun w => absurd w (by simp)) (fun _ => tl_rC.2.2 (by simp)))
  exact ⟨17, go 16 0 (by omega) H⟩
/-! the same, of the reference -/
def sT (c j : Nat) : Prop := c = 41 ∧ j = 23
theorem mX_T {M' : gMem} (hf : fr sT M M') (X : mX n b T E N q B W G M) : mX n b T E N q B W G M' := by
  obtain ⟨x1, x2, x3, x4, x5⟩ := X
  refine ⟨mS_fr hf (by unfold sT; omega) (by unfold sT; omega) (by unfold sT; omega) (by unfold sT; omega) (by unfold sT; omega) (by unfold sT; omega) x1, ⟨fun p hp => ?_, fun k h1 h2 => ?_⟩, x3, x4, x5⟩
  · rw [hf 73 p (by unfold sT; omega)]; exact x2.1 p hp
  · rw [hf 74 k (by unfold sT; omega)]; exact x2.2 k h1 h2
theorem m_symIn {post : Int32 → gMem → Prop} (X : mX n b T E N q B W G M) (H : post (nI (W 8 / 16)) M) : wp_MO_symbolsIn post M := by
  have hw := X.2.2.1.2.1
  unfold wp_MO_symbolsIn
  refine m_by (p := 8) X ?_
  try dsimp only
  rw [show lN (W 8) / (16 : Int64) = lN (W 8 / 16) from pk_lDiv (b := 16) (by omega) (by omega) (by omega), lN_i]
  exact H
theorem t202 {post : Int32 → gMem → Prop} {f : Nat} (hf : f ≠ 0) (hl : f < 64) (h : post (nI f) M) : wj_MO_allFaults_202 post (nI f) M := q_eq (b := 0) (fun z => absurd z hf) (fun _ => h)
theorem t136 {post : Int32 → gMem → Prop} {f k d : Nat} (hf : f ≠ 0) (hl : f < 64) (h : post (nI f) M) : wl_MO_allFaults_136 post (d + 1) (nI f) (nI k) M := by
  unfold wl_MO_allFaults_136
  exact ⟨fun _ => t202 hf hl h, fun _ => q_ne (b := 0) (fun _ => t202 hf hl h) (fun z => absurd z hf)⟩
theorem t121 {post : Int32 → gMem → Prop} {f : Nat} (hf : f ≠ 0) (hl : f < 64) (h : post (nI f) M) : wj_MO_allFaults_121 post (nI f) M := q_eq (b := 0) (fun z => absurd z hf) (fun _ => ⟨1, t136 (k := 0) hf hl h⟩)
theorem t97 {post : Int32 → gMem → Prop} {f k d : Nat} (X : mX n b T E N q B W G M) (hf : f ≠ 0) (hl : f < 64) (h : post (nI f) M) : wl_MO_allFaults_97 post (d + 1) (nI f) (nI k) M := by
  unfold wl_MO_allFaults_97
  exact m_symIn X ⟨fun _ => t121 hf hl h, fun _ => q_ne (b := 0) (fun _ => t121 hf hl h) (fun z => absurd z hf)⟩
theorem m_sym0 {post : Int32 → gMem → Prop} (X : mX n b T E N q B W G M) (H : post (nI (fs (yS0 b B) 16 0).1) (tm M (fs (yS0 b B) 16 0))) : wp_MO_symbolFault post (nI 0) M := by
  have t := X.1.2.1
  unfold hT at t
  have h8 := X.2.2.1.1 8 (by omega) (by omega)
  have hw := X.2.2.1.2.1
  have go : ∀ d k, k + d = 16 → post (nI (fs (yS0 b B) d k).1) (tm M (fs (yS0 b B) d k)) → wl_MO_symbolFault_8 post (d + 1) (nI 0) (nI (B 8)) (nI k) M := by
    intro d
    induction d with
    | zero =>
      intro k hk H
      unfold wl_MO_symbolFault_8 wj_MO_symbolFault_45
      exact q_le (a := 16) (fun c => q_t' rfl H) (fun c => by omega)
    | succ d ih =>
      intro k hk H
      unfold wl_MO_symbolFault_8
      unfold fs at H
      rw [nI_add, m_f X.1.1 (by omega)]
      refine q_le (a := 16) (fun c => by omega) (fun c => q_t' rfl ⟨m_in X.1.1 (by omega), q_eq (b := 0) (fun z => q_x ?_) (fun z => ?_)⟩)
      · rw [yS0, if_pos z, if_pos rfl] at H
        rw [nI_1]
        exact ih (k + 1) (by omega) H
      · rw [yS0, if_neg z, if_neg (by simp)] at H
        exact m_fault (f := 21) H
  exact m_place X ⟨17, go 16 0 (by omega) H⟩
theorem m_symE {post : Int32 → gMem → Prop} {x : Nat} (X : mX n b T E N q B W G M) (hx1 : 1 ≤ x) (hx : B 8 + 16 * x + 15 < n) (hv : ∀ y, 1 ≤ y → y < x → vn b B W y) (H : post (nI (ySy b q E B W x).1) (tm M (ySy b q E B W x))) : wp_MO_symbolFault post (nI x) M := by
  have h8 := X.1.1.1
  refine m_place X ⟨1, ?_⟩
  unfold wl_MO_symbolFault_8
  exact q_f (by decide) (q_ne (b := 0) (fun _ => m_symF X hx1 hx hv H) (fun z => by omega))
theorem m_symL {post : Int32 → gMem → Prop} {R : Nat} (X : mX n b T E N q B W G M) (hR : R = W 8 / 16) : ∀ d x, x + d = R → 1 ≤ x → (∀ y, 1 ≤ y → y < x → vn b B W y) → ((fs (ySy b q E B W) d x).1 = 0 → wj_MO_allFaults_121 post (0 : Int32) M) → ((fs (ySy b q E B W) d x).1 ≠ 0 → post (nI (fs (ySy b q E B W) d x).1) (tm M (fs (ySy b q E B W) d x))) → wl_MO_allFaults_97 post (d + 1) (0 : Int32) (nI x) M := by
  have t := X.1.2.1
  unfold hT at t
  have h8 := X.2.2.1.1 8 (by omega) (by omega)
  have hw := X.2.2.1.2.1
  intro d
  induction d with
  | zero =>
    intro x hx h1 hv H1 H2
    unfold wl_MO_allFaults_97
    exact m_symIn X (q_le (fun c => H1 rfl) (fun c => by omega))
  | succ d ih =>
    intro x hx h1 hv H1 H2
    unfold wl_MO_allFaults_97
    unfold fs at H1 H2
    have hb := ySy_b (b := b) (q := q) (E := E) (B := B) (W := W) (x := x)
    refine m_symIn X (q_le (fun c => by omega) (fun c => q_t' rfl (m_symE X h1 (by omega) hv (q_x ?_))))
    rw [nI_1]
    by_cases z : (ySy b q E B W x).1 = 0
    · rw [if_pos z] at H1 H2
      rw [z, tm_0 z]
      refine ih (x + 1) (by omega) (by omega) (fun y b1 b2 => ?_) H1 H2
      by_cases b3 : y = x
      · rw [b3]; exact (ySy_0 z).1
      · exact hv y b1 (by omega)
    · rw [if_neg z] at H2
      exact t97 (mX_T (tm_fr ⟨rfl, rfl⟩) X) z hb (H2 z)
theorem m_info {post : Int32 → gMem → Prop} (X : mX n b T E N q B W G M) (H : post (nI (yIn b T (eo q E 8) B (W 8 / 16)).1) (tm M (yIn b T (eo q E 8) B (W 8 / 16)))) : wp_MO_infoFault post M := by
  have t := X.1.2.1
  unfold hT at t
  have h8 := X.2.2.1.1 8 (by omega) (by omega)
  have hw := X.2.2.1.2.1
  have ho := eo_lt (q := q) (e := E) (p := 8) (by omega)
  have hc := clx_lt (b := b) (B := B) (W 8 / 16)
  have go : ∀ d x, x + d = W 8 / 16 → 1 ≤ x → wl_MO_infoFault_4 post (d + 1) (lN (1 + clx b B x)) (nI x) M := by
    intro d
    induction d with
    | zero =>
      intro x hx h1
      have e : x = W 8 / 16 := by omega
      subst e
      unfold wl_MO_infoFault_4
      refine m_symIn X (q_le (fun _ => ⟨in_8, fun x3 e3 => ?_⟩) (fun c => by omega))
      rw [cl_8, X.2.1.1 8 (by omega)] at e3
      subst e3
      refine m_told (i := 7) X.1 (ql_eq (fun c => ?_) (fun c => ?_))
      · rw [yIn, if_pos c] at H; exact H
      · rw [yIn, if_neg c] at H; exact m_spotF (f := 28) (i := 7) X.1 H
    | succ d ih =>
      intro x hx h1
      unfold wl_MO_infoFault_4
      have hb := bd_lt (b := b) (P := B 8 + 16 * x)
      have hn := ih (x + 1) (by omega) (by omega)
      have e : clx b B (x + 1) = clx b B x + if 1 ≤ x ∧ bd b (B 8 + 16 * x) = 0 then 1 else 0 := rfl
      refine m_symIn X (q_le (fun c => by omega) (fun c => m_bind X (by omega) (q_ne (b := 0) (fun z => fun x12 e12 => q_x ?_) (fun z => fun x14 e14 => q_x ?_))))
      · rw [nI_1, e12]
        rw [e, if_neg (fun w => z w.2)] at hn
        rw [show lN (1 + clx b B x) + (0 : Int64) = lN (1 + (clx b B x + 0)) from lN_add _ 0]
        exact hn
      · rw [nI_1, e14]
        rw [e, if_pos ⟨h1, z⟩] at hn
        rw [show lN (1 + clx b B x) + (1 : Int64) = lN (1 + (clx b B x + 1)) from lN_add _ 1]
        exact hn
  have := go (W 8 / 16 - 1) 1 (by omega) (by omega)
  rw [show clx b B 1 = 0 by simp [clx]] at this
  exact ⟨_, this⟩
theorem yIn_b {o8 R : Nat} : (yIn b T o8 B R).1 < 64 := by unfold yIn; split <;> simp
theorem m_syms {post : Int32 → gMem → Prop} (X : mX n b T E N q B W G M) (H0 : (xSy b T E q B W).1 ≠ 0 → ∀ M', fr sT M M' → M' 41 23 = nI (xSy b T E q B W).2 → post (nI (xSy b T E q B W).1) M') (H1 : (xSy b T E q B W).1 = 0 → ∃ n9 : Nat, wl_MO_allFaults_136 post n9 (0 : Int32) (0 : Int32) M) : ∃ n9 : Nat, wl_MO_allFaults_97 post n9 (0 : Int32) (0 : Int32) M := by
  have hw := X.2.2.1.2.1
  have b0 : (fs (yS0 b B) 16 0).1 < 64 := fs_b fun j a1 a2 => by unfold yS0; split <;> simp
  refine ⟨W 8 / 16 - 1 + 1 + 1, ?_⟩
  unfold wl_MO_allFaults_97
  refine m_symIn X (q_le (b := 0) (fun c => by omega) (fun c => q_t' rfl (m_sym0 X (q_x ?_))))
  rw [show (0 : Int32) + (1 : Int32) = nI 1 from rfl]
  unfold xSy at H0 H1
  by_cases c1 : (fs (yS0 b B) 16 0).1 = 0
  · rw [sq_t c1] at H0 H1
    rw [c1, tm_0 c1]
    refine m_symL X rfl (W 8 / 16 - 1) 1 (by omega) (by omega) (fun y a1 a2 => by omega) (fun c2 => ?_) (fun c2 => ?_)
    · rw [sq_t c2] at H0 H1
      refine q_t rfl (m_info X ?_)
      by_cases c3 : (yIn b T (eo q E 8) B (W 8 / 16)).1 = 0
      · rw [c3, tm_0 c3]
        exact H1 c3
      · exact ⟨1, t136 (k := 0) c3 yIn_b (H0 c3 _ (tm_fr ⟨rfl, rfl⟩) (tm_rM.2 c3))⟩
    · rw [sq_n c2] at H0
      exact H0 c2 _ (tm_fr ⟨rfl, rfl⟩) (tm_rM.2 c2)
  · rw [sq_n c1] at H0
    exact t97 (mX_T (tm_fr ⟨rfl, rfl⟩) X) c1 b0 (H0 c1 _ (tm_fr ⟨rfl, rfl⟩) (tm_rM.2 c1))
end
