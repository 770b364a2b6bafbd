/-! strings and labels, of the reference -/
theorem ti_at {M : gMem} (R : rTi M) {t i : Nat} (ht : t < 11) (hi : i ≤ gSl t) : vp_in (M 64 (nI t).toNatClampNeg + nI i) 128 ∧ M 63 (M 64 (nI t).toNatClampNeg + nI i).toNatClampNeg = nI (tc t i) := by
  have hl := tc_l t ht
  have hm := tc_m t ht i (by omega) hi
  rw [nI_clamp (by omega), R.2 t ht, nI_add, nI_clamp (by omega), R.1 _ hm.2, hm.1]
  exact ⟨vp_in_nI (by omega) (by omega), rfl⟩
theorem m_isTitle {n : Nat} {b : Nat → Fin 256} {M : gMem} {post : Bool → gMem → Prop} {p t z : Nat} (V : rV n b M) (R : rTi M) (ht : t < 11) (hz : z < n) (hb : (b z).1 = 0) (hp : p ≤ z) (H : post (stb b p t) M) : wp_MO_isTitle post (nI t) (nI p) M := by
  have hl := tc_l t ht
  have h8 := V.1
  have in11 : vp_in (nI t) 11 := vp_in_nI ht (by omega)
  refine pk_loop (fun k i M' => wl_MO_isTitle_2 post k (nI t) (nI p) (nI i) M') (fun i M' => M' = M ∧ ∀ j, j < i → (b (p + j)).1 = tc t j) (gSl t) 0 M (by omega) ⟨rfl, fun j hj => by omega⟩ ?_ ?_
  · rintro k s ⟨rfl, hI⟩
    have hn := tc_n t ht (gSl t) (by omega) (by omega)
    obtain ⟨i1, e1⟩ := ti_at R ht (Nat.le_refl _)
    have hpz : p + gSl t ≤ z := by
      by_cases c : p + gSl t ≤ z
      · exact c
      · exfalso
        have h1 := hI (z - p) (by omega)
        rw [show p + (z - p) = z by omega, hb] at h1
        have := (tc_n t ht (z - p) (by omega) (by omega)).2.mp h1.symm
        omega
    unfold wl_MO_isTitle_2
    refine ⟨in11, i1, ?_⟩
    rw [e1, nI_add]
    refine q_eq (b := 0) (fun _ => ?_) (fun c => absurd (hn.2.mpr rfl) c)
    unfold wj_MO_isTitle_48
    rw [e1, nI_add]
    refine ⟨in11, i1, q_ne (b := 0) (fun c => absurd (hn.2.mpr rfl) c) (fun _ => ⟨m_in V, ?_⟩)⟩
    rw [m_f V]
    refine q_ne (b := 0) (fun c => ?_) (fun c => ?_)
    · rw [stb_f (i := gSl t) (by omega) (by rw [hn.2.mpr rfl]; exact c)] at H; exact H
    · rw [stb_t.mpr (fun i hi => by
        by_cases d : i = gSl t
        · rw [d, c]; exact (hn.2.mpr rfl).symm
        · exact hI i (by omega))] at H
      exact H
  · rintro k i s hi ⟨rfl, hI⟩ next
    have hn := tc_n t ht i (by omega) (by omega)
    have hn0 : tc t i ≠ 0 := fun c => by have := hn.2.mp c; omega
    obtain ⟨i1, e1⟩ := ti_at R ht (show i ≤ gSl t by omega)
    have hpz : p + i ≤ z := by
      by_cases c : p + i ≤ z
      · exact c
      · exfalso
        have h1 := hI (z - p) (by omega)
        rw [show p + (z - p) = z by omega, hb] at h1
        have := (tc_n t ht (z - p) (by omega) (by omega)).2.mp h1.symm
        omega
    unfold wl_MO_isTitle_2
    refine ⟨in11, i1, ?_⟩
    rw [e1, nI_add]
    refine q_eq (b := 0) (fun c => absurd c hn0) (fun _ => ⟨m_in V, in11, i1, ?_⟩)
    rw [m_f V]
    refine q_ne (fun c => ?_) (fun c => q_x ?_)
    · unfold wj_MO_isTitle_48
      rw [e1, nI_add]
      refine ⟨in11, i1, q_ne (b := 0) (fun _ => ?_) (fun c => absurd c hn0)⟩
      rw [stb_f (i := i) (by omega) c] at H; exact H
    · rw [nI_1]
      refine next s ⟨rfl, fun j hj => ?_⟩
      by_cases d : j = i
      · rw [d]; exact c
      · exact hI j (by omega)
def sN (c j : Nat) : Prop := (c = 41 ∧ j = 23) ∨ c = 73 ∨ c = 74
theorem mS_fr {n T E N : Nat} {b : Nat → Fin 256} {S : Nat → Nat → Prop} {M M' : gMem} (hf : fr S M M') (h0 : ¬ S 41 39) (h5 : ¬ S 41 40) (h1 : ¬ S 17 1) (h2 : ¬ S 41 22) (h3 : ∀ j, ¬ S 18 j) (h4 : ∀ j, ¬ S 62 j) (K : mS n b T E N M) : mS n b T E N M' := ⟨rV_fr hf h1 h2 h3 h4 K.1, K.2.1, by rw [hf _ _ h0]; exact K.2.2.1, by rw [hf _ _ h5]; exact K.2.2.2⟩
theorem mS_N {n T E N : Nat} {b : Nat → Fin 256} {M M' : gMem} (hf : fr sN M M') (K : mS n b T E N M) : mS n b T E N M' := mS_fr hf (by unfold sN; omega) (by unfold sN; omega) (by unfold sN; omega) (by unfold sN; omega) (by unfold sN; omega) (by unfold sN; omega) K
theorem rTi_N {M M' : gMem} (hf : fr sN M M') (K : rTi M) : rTi M' := rTi_fr hf (by unfold sN; omega) (by unfold sN; omega) K
def lM (q : Nat → Nat) (e : Nat) (M : gMem) : Prop := (∀ p, p < 11 → M 73 p = nI (eo q e p)) ∧ ∀ k, 1 ≤ k → k < e → M 74 k = nI (q k)
theorem m_lab1 {n T E N : Nat} {b : Nat → Fin 256} {post : Int32 → gMem → Prop} {K : Int32 → Int32 → Int32 → gMem → Prop} {M : gMem} {e z B W : Nat} (S : mS n b T E N M) (R : rTi M) (hB : B = (nu b T N 4).1) (hW : W < 2 ^ 31) (hz : z < n) (hb : (b z).1 = 0) (hz2 : B + (nu b T e 0).1 ≤ z) (he : e < E) (h0 : M 74 e = -1)
    (H1 : ∀ M', fr sN M M' → (∀ p, M' 73 p = M 73 p) → (∀ k, k ≠ e → M' 74 k = M 74 k) → pn b (B + (nu b T e 0).1) = 11 → wj_MO_nameFaults_249 post (nI e) M')
    (H2 : ∀ M', fr sN M M' → (∀ p, M' 73 p = M 73 p) → (∀ k, k ≠ e → M' 74 k = M 74 k) → pn b (B + (nu b T e 0).1) ≠ 11 → M' 74 e = nI (pn b (B + (nu b T e 0).1)) → (M' 73 (pn b (B + (nu b T e 0).1)) = 0 → ∀ M18 : gMem, M18 = va_up M' 73 (upd (M' 73) (pn b (B + (nu b T e 0).1)) (nI e)) → K (nI B) (nI W) (nI (e + 1)) M18) ∧ (¬ M' 73 (pn b (B + (nu b T e 0).1)) = 0 → wj_MO_nameFaults_249 post (nI e) M')) :
    ∃ n9 : Nat, wl_MO_nameFaults_182 post K n9 (nI B) (nI W) (nI e) (0 : Int32) M := by
  have t := S.2.1
  unfold hT at t
  have hle := pn_le (b := b) (p := B + (nu b T e 0).1)
  refine pk_loop (fun k i M' => wl_MO_nameFaults_182 post K k (nI B) (nI W) (nI e) (nI i) M') (fun i M' => fr sN M M' ∧ (∀ p, M' 73 p = M 73 p) ∧ (∀ k, k ≠ e → M' 74 k = M 74 k) ∧ M' 74 e = if pn b (B + (nu b T e 0).1) < i then nI (pn b (B + (nu b T e 0).1)) else -1) 11 0 M (by omega) ⟨fr.refl, fun _ => rfl, fun _ _ => rfl, by rw [if_neg (by omega)]; exact h0⟩ ?_ ?_
  · rintro k s ⟨h1, h2, h3, h4⟩
    unfold wl_MO_nameFaults_182
    have in16 : vp_in (nI e) 16 := vp_in_nI (by omega) (by omega)
    refine q_t (by decide) ⟨in16, ?_⟩
    rw [nI_clamp (by omega), h4]
    by_cases c : pn b (B + (nu b T e 0).1) < 11
    · rw [if_pos c] at h4 ⊢
      have := H2 s h1 h2 h3 (by omega) h4
      refine q_f (fun d => ?_) ⟨in16, vp_in_nI c (by omega), ?_⟩
      · rw [ti_eq, ti_nI (by omega), show ((-1 : Int32)).toInt = -1 from rfl] at d
        omega
      · rw [nI_clamp (by omega)]
        exact ⟨fun d => ⟨in16, vp_in_nI c (by omega), fun M18 e18 => q_x (by rw [nI_1]; exact this.1 d M18 e18)⟩, this.2⟩
    · rw [if_neg c]
      exact q_t rfl (H1 s h1 h2 h3 (by omega))
  · rintro k i s hi ⟨h1, h2, h3, h4⟩ next
    unfold wl_MO_nameFaults_182
    refine q_le (a := 11) (fun c => by omega) (fun c => m_told (i := 0) (mS_N h1 S) ?_)
    try dsimp only
    rw [lN_i, nI_add]
    refine m_isTitle (mS_N h1 S).1 (rTi_N h1 R) hi hz hb hz2 (q_b (fun c1 => q_x ?_) (fun c1 => ⟨vp_in_nI (by omega) (by omega), fun M1 e1 => q_x ?_⟩))
    · rw [nI_1]
      refine next s ⟨h1, h2, h3, ?_⟩
      rw [h4]
      have := pn_f hi c1
      by_cases d : pn b (B + (nu b T e 0).1) < i
      · rw [if_pos d, if_pos (by omega)]
      · rw [if_neg d, if_neg (by omega)]
    · rw [nI_1]
      rw [nI_clamp (by omega)] at e1
      have := pn_t hi c1
      refine next M1 ⟨h1.trans (e1 ▸ fr_upd (Or.inr (Or.inr rfl))), fun p => by rw [e1]; exact h2 p, fun k hk => by rw [e1]; simp [va_up, upd, hk]; exact h3 k hk, ?_⟩
      rw [if_pos (by omega), this, e1]
      simp [va_up, upd]
theorem m_lab {n T E N : Nat} {b : Nat → Fin 256} {post : Int32 → gMem → Prop} (hz : (nu b T N 4).1 + (nu b T N 5).1 ≤ n) (hz0 : 0 < (nu b T N 5).1) (hb : (b ((nu b T N 4).1 + (nu b T N 5).1 - 1)).1 = 0) : ∀ d e (M : gMem), e + d = E → 1 ≤ e → mS n b T E N M → rTi M → lM (qp b T N) e M → (∀ M', fr sN M M' → ((fs (yL (qp b T N) T) d e).1 = 0 → lM (qp b T N) E M') → ((fs (yL (qp b T N) T) d e).1 ≠ 0 → M' 41 23 = nI (fs (yL (qp b T N) T) d e).2) → post (nI (fs (yL (qp b T N) T) d e).1) M') → wl_MO_nameFaults_135 post (d + 1) (nI (nu b T N 4).1) (nI (nu b T N 5).1) (nI e) M := by
  intro d
  induction d with
  | zero =>
    intro e M hk h1 S R L H
    have t := S.2.1
    unfold hT at t
    unfold wl_MO_nameFaults_135
    rw [S.2.2.2]
    have he : e = E := by omega
    subst he
    exact q_le (fun c => H M fr.refl (fun _ => L) (fun q => absurd rfl q)) (fun c => by omega)
  | succ d ih =>
    intro e M hk h1 S R L H
    have t := S.2.1
    unfold hT at t
    unfold wl_MO_nameFaults_135
    rw [S.2.2.2]
    have hq := qp_le (b := b) (T := T) (N := N) (e := e)
    have he := eo_lt (q := qp b T N) (e := e) (p := qp b T N e) h1
    unfold fs at H
    have bad : yL (qp b T N) T e = (16, T + 40 * e + 4 * 0) → ∀ M1, fr sN M M1 → wp_MO_spotOf (fun r14 M15 => wp_MO_fault (fun r16 M17 => post r16 M17) (16 : Int32) r14 M15) (nI e) (0 : Int32) M1 := by
      intro ey M1 f1
      rw [ey, if_neg (by simp)] at H
      exact m_spotF (f := 16) (i := 0) (mS_N f1 S) (H _ (f1.trans (tm_fr (Or.inl ⟨rfl, rfl⟩))) (fun q => absurd q (by simp)) (fun _ => tm_rM.2 (by simp)))
    refine q_le (fun c => by omega) (fun c => ⟨vp_in_nI (by omega) (by omega), fun M1 e1 => ?_⟩)
    rw [nI_clamp (by omega)] at e1
    have f1 : fr sN M M1 := e1 ▸ fr_upd (Or.inr (Or.inr rfl))
    have S1 := mS_N f1 S
    refine m_told (i := 0) S1 ?_
    try dsimp only
    rw [nI_l (by omega)]
    refine ql_lt (fun c1 => ?_) (fun c1 => bad (by rw [yL, if_pos (by rw [qp, if_neg (by omega)])]) M1 f1)
    have eq : qp b T N e = pn b ((nu b T N 4).1 + (nu b T e 0).1) := by rw [qp, if_pos c1]
    have g73 : ∀ p, M1 73 p = M 73 p := fun p => by rw [e1]; rfl
    have g74 : ∀ k, k ≠ e → M1 74 k = M 74 k := fun k hk => by rw [e1]; simp [va_up, upd, hk]
    refine m_lab1 (z := (nu b T N 4).1 + (nu b T N 5).1 - 1) S1 (rTi_N f1 R) rfl (by omega) (by omega) hb (by omega) (by omega) (by rw [e1]; simp [va_up, upd]) (fun M' f a1 a2 a3 => ?_) (fun M' f a1 a2 a3 a4 => ?_)
    · rw [← eq] at a3
      exact bad (by rw [yL, if_pos a3]) M' (f1.trans f)
    · rw [← eq] at a3 a4 ⊢
      rw [a1, g73, L.1 _ (by omega)]
      refine q_eq (b := 0) (fun c2 M18 e18 => ?_) (fun c2 => bad (by rw [yL, if_neg a3, if_neg c2]) M' (f1.trans f))
      rw [yL, if_neg a3, if_pos c2, if_pos rfl] at H
      have f18 : fr sN M M18 := (f1.trans f).trans (e18 ▸ fr_upd (Or.inr (Or.inl rfl)))
      refine ih (e + 1) M18 (by omega) (by omega) (mS_N f18 S) (rTi_N f18 R) ⟨fun p hp => ?_, fun k hk1 hk2 => ?_⟩ (fun M'' f' b1 b2 => H M'' (f18.trans f') b1 b2)
      · unfold eo
        have gg : M18 73 p = upd (M' 73) (qp b T N e) (nI e) p := by rw [e18]; rfl
        rw [gg]
        unfold upd
        by_cases cp : p = qp b T N e
        · rw [if_pos cp, if_pos ⟨h1, cp.symm⟩]
        · rw [if_neg cp, if_neg (by intro z; exact cp z.2.symm), a1, g73]
          exact L.1 p hp
      · have gg : M18 74 k = M' 74 k := by rw [e18]; rfl
        rw [gg]
        by_cases ck : k = e
        · rw [ck]; exact a4
        · rw [a2 k ck, g74 k ck]
          exact L.2 k hk1 (by omega)
theorem m_lab0 {n T E N : Nat} {b : Nat → Fin 256} {M : gMem} {post : Int32 → gMem → Prop} (S : mS n b T E N M) (R : rTi M) (hz : (nu b T N 4).1 + (nu b T N 5).1 ≤ n) (hz0 : 0 < (nu b T N 5).1) (hb : (b ((nu b T N 4).1 + (nu b T N 5).1 - 1)).1 = 0) (H : ∀ M', fr sN M M' → ((xLb b T E N).1 = 0 → lM (qp b T N) E M') → ((xLb b T E N).1 ≠ 0 → M' 41 23 = nI (xLb b T E N).2) → post (nI (xLb b T E N).1) M') : ∃ n9 : Nat, wl_MO_nameFaults_111 post n9 (nI (nu b T N 4).1) (nI (nu b T N 5).1) (0 : Int32) M := by
  have t := S.2.1
  unfold hT at t
  refine pk_loop (fun k i M' => wl_MO_nameFaults_111 post k (nI (nu b T N 4).1) (nI (nu b T N 5).1) (nI i) M') (fun i M' => fr sN M M' ∧ ∀ p, p < i → M' 73 p = nI 0) 11 0 M (by omega) ⟨fr.refl, fun p hp => by omega⟩ ?_ ?_
  · rintro k s ⟨h1, h2⟩
    unfold wl_MO_nameFaults_111
    refine q_t (by decide) ⟨E - 1 + 1, m_lab hz hz0 hb (E - 1) 1 s (by omega) (by omega) (mS_N h1 S) (rTi_N h1 R) ⟨fun p hp => by rw [eo_1]; exact h2 p hp, fun k h1 h2 => by omega⟩ (fun M' f a1 a2 => H M' (h1.trans f) a1 a2)⟩
  · rintro k i s hi ⟨h1, h2⟩ next
    unfold wl_MO_nameFaults_111
    refine q_le (a := 11) (fun c => by omega) (fun c => ⟨vp_in_nI hi (by omega), fun M1 e1 => q_x ?_⟩)
    rw [nI_1]
    rw [nI_clamp (by omega)] at e1
    refine next M1 ⟨h1.trans (e1 ▸ fr_upd (Or.inr (Or.inl rfl))), fun p hp => ?_⟩
    by_cases cp : p = i
    · subst cp
      rw [e1]
      simp [va_up, upd]
      rfl
    · rw [e1]
      simp [va_up, upd, cp]
      exact h2 p (by omega)
def xNa (b : Nat → Fin 256) (T E N : Nat) : Nat × Nat := sq (yS b T 15 N) (xLb b T E N)
theorem m_names {n T E N : Nat} {b : Nat → Fin 256} {M : gMem} {post : Int32 → gMem → Prop} (S : mS n b T E N M) (R : rTi M) (hN : (v2 b 50).1 = N) (A : aOk n b T E) (H : ∀ M', fr sN M M' → ((xNa b T E N).1 = 0 → lM (qp b T N) E M') → ((xNa b T E N).1 ≠ 0 → M' 41 23 = nI (xNa b T E N).2) → post (nI (xNa b T E N).1) M') : wp_MO_nameFaults post M := by
  have t := S.2.1
  unfold hT at t
  have a := (A N (by omega) (by omega)).1
  unfold wp_MO_nameFaults
  have bad : ∀ f p, yS b T 15 N = (f, p) → f ≠ 0 → post (nI f) (tm M (f, p)) := by
    intro f p ey hf
    rw [xNa, sq, ey, if_neg hf] at H
    exact H _ (tm_fr (Or.inl ⟨rfl, rfl⟩)) (fun q => absurd q hf) (fun _ => tm_rM.2 hf)
  refine m_read2 (p := 50) S.1 ?_
  try dsimp only
  rw [hN]
  refine m_told (i := 1) S (ql_eq (b := 3) (fun c => ?_) (fun c => m_spotF (f := 15) (i := 1) S (bad _ _ (by rw [yS, if_neg c]) (by omega))))
  refine m_told (i := 4) S (fun x7 e7 => m_told (i := 5) S (fun x10 e10 => ?_))
  rw [lN_i] at e7 e10
  subst e7 e10
  refine q_ne (b := 0) (fun d => ⟨m_in S.1 (by omega), ?_⟩) (fun d => m_spotF (f := 15) (i := 5) S (bad _ _ (by rw [yS, if_pos c, if_pos d]) (by omega)))
  rw [m_f S.1 (by omega), nI_add, show nI ((nu b T N 4).1 + (nu b T N 5).1) - (1 : Int32) = nI ((nu b T N 4).1 + (nu b T N 5).1 - 1) from pk_sub (b := 1) (by omega), m_f S.1 (by omega)]
  refine q_eq (b := 0) (fun d1 => ⟨m_in S.1 (by omega), q_eq (b := 0) (fun d2 => ?_) (fun d2 => m_fault (f := 15) (bad _ _ (by rw [yS, if_pos c, if_neg d, if_pos d1, if_neg d2]) (by omega)))⟩) (fun d1 => m_fault (f := 15) (bad _ _ (by rw [yS, if_pos c, if_neg d, if_neg d1]) (by omega)))
  rw [xNa, yS, if_pos c, if_neg d, if_pos d1, if_pos d2] at H
  exact m_lab0 S R (by omega) (by omega) d2 H
