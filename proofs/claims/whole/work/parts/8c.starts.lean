/-! instruction starts -/
section
variable {n T E N : Nat} {b : Nat → Fin 256} {M : gMem} {q B W G : Nat → Nat}
theorem cl_0 : ((0 : Int32)).toNatClampNeg = 0 := rfl
theorem cl_4 : ((4 : Int32)).toNatClampNeg = 4 := rfl
theorem in_0 : vp_in (0 : Int32) 11 := vp_in_nI (n := 0) (by omega) (by omega)
theorem in_4 : vp_in (4 : Int32) 11 := vp_in_nI (n := 4) (by omega) (by omega)
def sv (b : Nat → Fin 256) (B : Nat → Nat) (k : Nat) : Nat := (v2 b (B 4 + 2 * k)).1
def yT (b : Nat → Fin 256) (B W : Nat → Nat) (k : Nat) : Nat × Nat := if sv b B k % 2 = 0 ∧ (k = 0 ∨ sv b B (k - 1) < sv b B k) ∧ sv b B k < W 0 then (0, 0) else (33, B 4 + 2 * k)
def cS (b : Nat → Fin 256) (B : Nat → Nat) : Nat → Nat
  | 0 => 0
  | k + 1 => cS b B k + if (b (B 0 + sv b B k)).1 % 4 = 3 then 0 else 1
def yF (b : Nat → Fin 256) (c : Nat) : Nat × Nat := if decide ((v4 b 36).1 = 1) = decide (c ≠ 0) then (0, 0) else (34, 36)
def xT (b : Nat → Fin 256) (B W : Nat → Nat) : Nat × Nat := sq (fs (yT b B W) (W 4 / 2) 0) (yF b (cS b B (W 4 / 2)))
theorem cS_le {k : Nat} : cS b B k ≤ k := by
  induction k with
  | zero => exact Nat.le_refl 0
  | succ k ih => unfold cS; split <;> omega
theorem w_short {post : Bool → gMem → Prop} {x : Fin 256} (h : post (!decide (x.1 % 4 = 3)) M) : wp_OF_isShort post (nI x.1) M := by
  unfold wp_OF_isShort
  rw [pk_andN (by omega) 2 (by decide)]
  refine q_eq (b := 3) (fun z => ?_) (fun z => ?_)
  · rw [decide_eq_true (show x.1 % 4 = 3 from z)] at h; exact h
  · rw [decide_eq_false (show ¬ x.1 % 4 = 3 from z)] at h; exact h
theorem m_short {post : Bool → gMem → Prop} {x : Fin 256} (h : post (!decide (x.1 % 4 = 3)) M) : wp_MO_isShort post (nI x.1) M := by
  unfold wp_MO_isShort
  rw [pk_andN (by omega) 2 (by decide)]
  refine q_eq (b := 3) (fun z => ?_) (fun z => ?_)
  · rw [decide_eq_true (show x.1 % 4 = 3 from z)] at h; exact h
  · rw [decide_eq_false (show ¬ x.1 % 4 = 3 from z)] at h; exact h
theorem k_stL {post : Int32 → gMem → Prop} (X : kX n b T E N q B W G M) : ∀ d k v4 v5, k + d = W 4 / 2 → (k = 0 → v4 = (-1 : Int32)) → (0 < k → v4 = nI (sv b B (k - 1))) → v5 = bI (decide (cS b B k ≠ 0)) → post (nI (sq (fs (yT b B W) d k) (yF b (cS b B (W 4 / 2)))).1) (tl M (sq (fs (yT b B W) d k) (yF b (cS b B (W 4 / 2))))) → wl_RE_startsFault_41 post (d + 1) (nI (B 0)) (nI (B 4 + W 4)) v4 v5 (nI (B 4 + 2 * k)) M := by
  have h8 := X.1.1.1
  have t := X.1.2.1
  unfold hT at t
  have h4 := X.2.2.1.1 4 (by omega) (by omega)
  have h0 := X.2.2.1.1 0 (by omega) (by omega)
  have hw4 := X.2.2.1.2.2.2.2.2.1
  intro d
  induction d with
  | zero =>
    intro k v4 v5 hk _ _ e5 H
    have e : k = W 4 / 2 := by omega
    subst e
    unfold wl_RE_startsFault_41
    rw [sq_f0, yF] at H
    refine q_le (fun _ => k_u4 (p := 36) X.1.1 ?_) (fun c => by omega)
    subst e5
    unfold wj_RE_startsFault_158
    refine ql_ne (b := 1) (fun z => ?_) (fun z => ?_)
    · rw [decide_eq_false z] at H
      by_cases c : cS b B (W 4 / 2) ≠ 0
      · rw [decide_eq_true c, if_neg (by decide)] at H
        rw [decide_eq_true c]
        exact q_f (by decide) (k_tell (f := 34) (p := 36) H)
      · rw [decide_eq_false c, if_pos rfl] at H
        rw [decide_eq_false c]
        exact q_t rfl H
    · rw [decide_eq_true z] at H
      by_cases c : cS b B (W 4 / 2) ≠ 0
      · rw [decide_eq_true c, if_pos rfl] at H
        rw [decide_eq_true c]
        exact q_t rfl H
      · rw [decide_eq_false c, if_neg (by decide)] at H
        rw [decide_eq_false c]
        exact q_f (by decide) (k_tell (f := 34) (p := 36) H)
  | succ d ih =>
    intro k v4 v5 hk e0 e4 e5 H
    unfold wl_RE_startsFault_41
    rw [sq_fs] at H
    have ek : B 4 + 2 * k + 2 = B 4 + 2 * (k + 1) := by omega
    have hsv : sv b B k < 65536 := by unfold sv; omega
    refine q_le (fun c => by omega) (fun c => k_u2 X.1.1 ?_)
    try dsimp only
    rw [show nI (v2 b (B 4 + 2 * k)).1 = nI (sv b B k) from rfl, even_rem (by omega)]
    have no : ¬ (sv b B k % 2 = 0 ∧ (k = 0 ∨ sv b B (k - 1) < sv b B k) ∧ sv b B k < W 0) → wp_FI_tell (fun r M' => post r M') (33 : Int32) (nI (B 4 + 2 * k)) M := by
      intro c
      rw [yT, if_neg c, if_neg (by simp)] at H
      exact k_tell (f := 33) H
    have hle : (nI (sv b B k) ≤ v4 ↔ ¬ (k = 0 ∨ sv b B (k - 1) < sv b B k)) := by
      by_cases c : k = 0
      · rw [e0 c]
        constructor
        · intro h
          rw [ti_le, nI_toInt (by omega), show (-1 : Int32).toInt = -1 from rfl] at h
          omega
        · intro h; exact absurd (Or.inl c) h
      · have hsv2 : sv b B (k - 1) < 65536 := by unfold sv; omega
        rw [e4 (by omega), nI_leI (by omega) (by omega)]
        omega
    refine q_ne (b := 0) (fun z => no (fun w => z w.1)) (fun z => ⟨fun c1 => no (fun w => hle.mp c1 w.2.1), fun c1 => ⟨in_0, ?_⟩⟩)
    have c2 : k = 0 ∨ sv b B (k - 1) < sv b B k := Classical.byContradiction (fun w => c1 (hle.mpr w))
    rw [cl_0, (X.2.2.2.2 0 (by omega)).2]
    refine q_lt (fun c3 => ?_) (fun c3 => no (fun w => by omega))
    have y0 : yT b B W k = (0, 0) := if_pos ⟨z, c2, c3⟩
    rw [y0, if_pos rfl] at H
    have step : ∀ v6, v6 = bI (decide (cS b B (k + 1) ≠ 0)) → wl_RE_startsFault_41 post (d + 1) (nI (B 0)) (nI (B 4 + W 4)) (nI (sv b B k)) v6 (nI (B 4 + 2 * (k + 1))) M := fun v6 e6 => ih (k + 1) _ v6 (by omega) (fun w => by omega) (fun _ => rfl) e6 H
    subst e5
    have es : cS b B (k + 1) = cS b B k + if (b (B 0 + sv b B k)).1 % 4 = 3 then 0 else 1 := rfl
    rw [es] at step
    refine q_dn (fun g => q_x ?_) (fun g => ?_)
    · rw [i2, ek]
      exact step 1 (by rw [decide_eq_true (show _ by omega)]; rfl)
    · rw [nI_add]
      have g0 : cS b B k = 0 := by omega
      refine k_u1 X.1.1 (w_short ?_)
      rw [g0] at step
      by_cases c5 : (b (B 0 + sv b B k)).1 % 4 = 3
      · rw [if_pos c5] at step
        rw [decide_eq_true c5]
        refine q_t rfl (q_x ?_)
        rw [i2, ek]
        exact step 0 rfl
      · rw [if_neg c5] at step
        rw [decide_eq_false c5]
        refine q_f (by decide) (q_x ?_)
        rw [i2, ek]
        exact step 1 rfl
theorem k_starts {post : Int32 → gMem → Prop} (X : kX n b T E N q B W G M) (H : post (nI (xT b B W).1) (tl M (xT b B W))) : wp_RE_startsFault post M := by
  unfold wp_RE_startsFault
  refine ⟨in_0, q_x ⟨in_4, q_x ⟨in_4, q_x ?_⟩⟩⟩
  rw [cl_0, cl_4, (X.2.2.2.2 0 (by omega)).1, (X.2.2.2.2 4 (by omega)).1, (X.2.2.2.2 4 (by omega)).2, nI_add]
  exact ⟨_, k_stL X (W 4 / 2) 0 _ _ (by omega) (fun _ => rfl) (fun w => by omega) rfl H⟩
theorem m_stL {post : Int32 → gMem → Prop} (X : mX n b T E N q B W G M) : ∀ d k, k + d = W 4 / 2 → post (nI (sq (fs (yT b B W) d k) (yF b (cS b B (W 4 / 2)))).1) (tm M (sq (fs (yT b B W) d k) (yF b (cS b B (W 4 / 2))))) → wl_MO_startFaults_13 post (d + 1) (nI (cS b B k)) (nI (W 4 / 2)) (nI k) M := by
  have h8 := X.1.1.1
  have t := X.1.2.1
  unfold hT at t
  have h4 := X.2.2.1.1 4 (by omega) (by omega)
  have h0 := X.2.2.1.1 0 (by omega) (by omega)
  have hw4 := X.2.2.1.2.2.2.2.2.1
  intro d
  induction d with
  | zero =>
    intro k hk H
    have e : k = W 4 / 2 := by omega
    subst e
    unfold wl_MO_startFaults_13
    rw [sq_f0, yF] at H
    have hc := cS_le (b := b) (B := B) (k := W 4 / 2)
    refine q_le (fun _ => m_read4 (p := 36) X.1.1 ?_) (fun c => by omega)
    unfold wj_MO_startFaults_131 wj_MO_startFaults_140
    refine ql_ne (b := 1) (fun z => ?_) (fun z => ?_)
    · rw [decide_eq_false z] at H
      refine q_le (b := 0) (fun c => ?_) (fun c => ?_)
      · rw [decide_eq_false (show ¬ cS b B (W 4 / 2) ≠ 0 by omega), if_pos rfl] at H
        exact q_t rfl H
      · rw [decide_eq_true (show cS b B (W 4 / 2) ≠ 0 by omega), if_neg (by decide)] at H
        exact q_f (by decide) (m_fault (f := 34) (p := 36) H)
    · rw [decide_eq_true z] at H
      refine q_le (b := 0) (fun c => ?_) (fun c => ?_)
      · rw [decide_eq_false (show ¬ cS b B (W 4 / 2) ≠ 0 by omega), if_neg (by decide)] at H
        exact q_f (by decide) (m_fault (f := 34) (p := 36) H)
      · rw [decide_eq_true (show cS b B (W 4 / 2) ≠ 0 by omega), if_pos rfl] at H
        exact q_t rfl H
  | succ d ih =>
    intro k hk H
    unfold wl_MO_startFaults_13
    rw [sq_fs] at H
    have hsv : sv b B k < 65536 := by unfold sv; omega
    refine q_le (fun c => by omega) (fun c => m_fo (p := 4) X (q_x ?_))
    rw [show (2 : Int32) * nI k = nI (2 * k) from pk_mul 2 k, nI_add]
    refine m_read2 X.1.1 ?_
    try dsimp only
    rw [show nI (v2 b (B 4 + 2 * k)).1 = nI (sv b B k) from rfl, even_rem (by omega)]
    have no : ¬ (sv b B k % 2 = 0 ∧ (k = 0 ∨ sv b B (k - 1) < sv b B k) ∧ sv b B k < W 0) → wp_MO_fault (fun r M' => post r M') (33 : Int32) (nI (B 4 + 2 * k)) M := by
      intro c
      rw [yT, if_neg c, if_neg (by simp)] at H
      exact m_fault (f := 33) H
    refine q_ne (b := 0) (fun z => no (fun w => z w.1)) (fun z => ?_)
    have go : (k = 0 ∨ sv b B (k - 1) < sv b B k) → wj_MO_startFaults_61 post (wl_MO_startFaults_13 post (d + 1)) (nI (cS b B k)) (nI (W 4 / 2)) (nI k) (nI (B 4 + 2 * k)) (nI (sv b B k)) M := by
      intro c2
      unfold wj_MO_startFaults_61
      refine m_by (p := 0) X ?_
      try dsimp only
      rw [nI_l (by omega)]
      have hw0 := X.2.2.1.2.2.2.1 0 (by omega)
      refine ql_lt (fun c3 => m_fo (p := 0) X ?_) (fun c3 => no (fun w => by omega))
      have y0 : yT b B W k = (0, 0) := if_pos ⟨z, c2, c3⟩
      rw [y0, if_pos rfl] at H
      have step := ih (k + 1) (by omega) H
      have es : cS b B (k + 1) = cS b B k + if (b (B 0 + sv b B k)).1 % 4 = 3 then 0 else 1 := rfl
      rw [es] at step
      try dsimp only
      rw [nI_add, m_f X.1.1 (by omega)]
      refine ⟨m_in X.1.1 (by omega), m_short ?_⟩
      by_cases c5 : (b (B 0 + sv b B k)).1 % 4 = 3
      · rw [if_pos c5] at step
        rw [decide_eq_true c5]
        refine q_t rfl (q_x (q_x ?_))
        rw [nI_1, show nI (cS b B k) + (0 : Int32) = nI (cS b B k + 0) from nI_add _ 0]
        exact step
      · rw [if_neg c5] at step
        rw [decide_eq_false c5]
        refine q_f (by decide) (q_x (q_x ?_))
        rw [nI_1, nI_1]
        exact step
    refine q_le (b := 0) (fun c => go (Or.inl (by omega))) (fun c => ?_)
    have hsv2 : sv b B (k - 1) < 65536 := by unfold sv; omega
    rw [show nI (B 4 + 2 * k) - (2 : Int32) = nI (B 4 + 2 * (k - 1)) by rw [show (2 : Int32) = nI 2 from rfl, pk_sub (by omega)]; congr 1; omega]
    refine m_read2 X.1.1 ?_
    try dsimp only
    rw [show nI (v2 b (B 4 + 2 * (k - 1))).1 = nI (sv b B (k - 1)) from rfl]
    exact q_le (fun c1 => no (fun w => by omega)) (fun c1 => go (Or.inr c1))
theorem m_starts {post : Int32 → gMem → Prop} (X : mX n b T E N q B W G M) (H : post (nI (xT b B W).1) (tm M (xT b B W))) : wp_MO_startFaults post M := by
  have h4 := X.2.2.1.2.2.2.2.2.1
  unfold wp_MO_startFaults
  refine m_by (p := 4) X (q_x ?_)
  rw [lN_i, show nI (W 4) / (2 : Int32) = nI (W 4 / 2) from pk_div (d := 2) (by omega) (by omega) (by omega)]
  exact ⟨_, m_stL X (W 4 / 2) 0 (by omega) H⟩
end
