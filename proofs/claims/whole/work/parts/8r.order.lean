/-! write: the symbols' order -/
section
variable {M : gMem} {nt ns nr : Nat}
theorem cnt_mono {g : Nat → Bool} {a b : Nat} (h : a ≤ b) : cnt g a ≤ cnt g b := by
  induction b with
  | zero => rw [show a = 0 by omega]; exact Nat.le_refl _
  | succ b ih =>
    by_cases c : a = b + 1
    · rw [c]; exact Nat.le_refl _
    · have := ih (by omega)
      show cnt g a ≤ cnt g b + _
      omega
theorem cnt_lt {g : Nat → Bool} {a b : Nat} (h : a < b) (hg : g a = true) : cnt g a < cnt g b := by
  have h1 : cnt g (a + 1) = cnt g a + 1 := by show cnt g a + (if g a = true then 1 else 0) = _; rw [if_pos hg]
  have h2 := cnt_mono (g := g) (show a + 1 ≤ b by omega)
  omega
theorem cnt_lt' {g : Nat → Bool} {a b : Nat} (h : a < b) (hg : g a = false) : a - cnt g a < b - cnt g b := by
  have h3 := cnt_le (g := g) a
  have key : ∀ d, (a + 1 + d) - cnt g (a + 1 + d) ≥ a - cnt g a + 1 := by
    intro d
    induction d with
    | zero =>
      have h1 : cnt g (a + 1) = cnt g a + 0 := by show cnt g a + (if g a = true then 1 else 0) = _; rw [hg, if_neg (by decide)]
      rw [show a + 1 + 0 = a + 1 by omega, h1]; omega
    | succ d ih =>
      have h4 := cnt_le (g := g) (a + 1 + d)
      have h5 : cnt g (a + 1 + (d + 1)) ≤ cnt g (a + 1 + d) + 1 := by
        show cnt g (a + 1 + d) + (if g (a + 1 + d) = true then 1 else 0) ≤ _
        split <;> omega
      omega
  have := key (b - (a + 1))
  rw [show a + 1 + (b - (a + 1)) = b by omega] at this
  omega
theorem cnt_ex {g : Nat → Bool} {n : Nat} : ∀ r, r < cnt g n → ∃ x, x < n ∧ g x = true ∧ cnt g x = r := by
  induction n with
  | zero => intro r hr; exact absurd hr (Nat.not_lt_zero r)
  | succ n ih =>
    intro r hr
    have e : cnt g (n + 1) = cnt g n + if g n = true then 1 else 0 := rfl
    by_cases c : r < cnt g n
    · obtain ⟨x, hx, h1, h2⟩ := ih r c
      exact ⟨x, by omega, h1, h2⟩
    · rw [e] at hr
      by_cases hg : g n = true
      · rw [if_pos hg] at hr
        exact ⟨n, by omega, hg, by omega⟩
      · rw [if_neg hg] at hr; omega
theorem cnt_ex' {g : Nat → Bool} {n : Nat} : ∀ r, r < n - cnt g n → ∃ x, x < n ∧ g x = false ∧ x - cnt g x = r := by
  induction n with
  | zero => intro r hr; omega
  | succ n ih =>
    intro r hr
    have e : cnt g (n + 1) = cnt g n + if g n = true then 1 else 0 := rfl
    have hle := cnt_le (g := g) n
    by_cases c : r < n - cnt g n
    · obtain ⟨x, hx, h1, h2⟩ := ih r c
      exact ⟨x, by omega, h1, h2⟩
    · rw [e] at hr
      cases hg : g n
      · rw [hg, if_neg (by decide)] at hr
        exact ⟨n, by omega, hg, by omega⟩
      · rw [hg, if_pos rfl] at hr; omega
def lc (M : gMem) (x : Nat) : Bool := decide (M 50 x = 0)
def tn (M : gMem) (n x : Nat) : Nat := if lc M x = true then cnt (lc M) x else cnt (lc M) n + (x - cnt (lc M) x)
theorem tn_lt {n x : Nat} (hx : x < n) : tn M n x < n := by
  have h1 := cnt_le (g := lc M) n
  have h2 := cnt_le (g := lc M) x
  unfold tn
  by_cases c : lc M x = true
  · rw [if_pos c]
    have := cnt_lt (g := lc M) hx c
    omega
  · rw [if_neg c]
    have := cnt_lt' (g := lc M) hx (by simpa using c)
    omega
theorem tn_inj {n x y : Nat} (hx : x < n) (hy : y < n) (h : tn M n x = tn M n y) : x = y := by
  unfold tn at h
  have a1 := cnt_le (g := lc M) x
  have a2 := cnt_le (g := lc M) y
  by_cases c : lc M x = true
  · rw [if_pos c] at h
    by_cases d : lc M y = true
    · rw [if_pos d] at h
      rcases Nat.lt_trichotomy x y with q | q | q
      · have := cnt_lt q c; omega
      · exact q
      · have := cnt_lt q d; omega
    · rw [if_neg d] at h
      have := cnt_lt hx c; omega
  · rw [if_neg c] at h
    by_cases d : lc M y = true
    · rw [if_pos d] at h
      have := cnt_lt hy d; omega
    · rw [if_neg d] at h
      have c' : lc M x = false := by simpa using c
      have d' : lc M y = false := by simpa using d
      rcases Nat.lt_trichotomy x y with q | q | q
      · have := cnt_lt' q c'; omega
      · exact q
      · have := cnt_lt' q d'; omega
theorem tn_sur {n r : Nat} (hr : r < n) : ∃ x, x < n ∧ tn M n x = r := by
  have h1 := cnt_le (g := lc M) n
  by_cases c : r < cnt (lc M) n
  · obtain ⟨x, hx, h2, h3⟩ := cnt_ex r c
    exact ⟨x, hx, by unfold tn; rw [if_pos h2]; exact h3⟩
  · obtain ⟨x, hx, h2, h3⟩ := cnt_ex' (g := lc M) (n := n) (r - cnt (lc M) n) (by omega)
    exact ⟨x, hx, by unfold tn; rw [if_neg (by rw [h2]; decide)]; omega⟩
noncomputable def od (M : gMem) (n r : Nat) : Nat := if h : r < n then Classical.choose (tn_sur (M := M) h) else 0
theorem od_s {n r : Nat} (h : r < n) : od M n r < n ∧ tn M n (od M n r) = r := by
  unfold od
  rw [dif_pos h]
  exact Classical.choose_spec (tn_sur (M := M) h)
theorem od_t {n x : Nat} (h : x < n) : od M n (tn M n x) = x := by
  have h1 := od_s (M := M) (tn_lt (M := M) h)
  exact tn_inj h1.1 h h1.2
theorem lc_e {M M' : gMem} (h : ∀ x, M' 50 x = M 50 x) : lc M' = lc M := by
  funext x; unfold lc; rw [h x]
/-! the class -/
def sOr (c j : Nat) : Prop := c = 29 ∨ c = 30 ∨ (c = 19 ∧ j = 12)
theorem sOr_o {M M' : gMem} (f : fr sOr M M') (c j : Nat) (h : c ≤ 18 ∨ 31 ≤ c) : M' c j = M c j := f c j (by unfold sOr; omega)
theorem dSy_fr {M M' : gMem} (o : ∀ c j, (c = 1 ∨ c = 6 ∨ c = 7 ∨ 47 ≤ c ∧ c ≤ 54) → M' c j = M c j) (u : dSy M ns) : dSy M' ns := by
  obtain ⟨h0, h1, h2, h3⟩ := u
  refine ⟨h0, by rw [o 1 7 (by omega)]; exact h1, by rw [o 54 0 (by omega)]; exact h2, fun x hx => ?_⟩
  have r := h3 x hx
  rw [o 6 _ (by omega), o 6 _ (by omega), o 6 _ (by omega), o 6 _ (by omega), o 6 _ (by omega), o 6 _ (by omega), o 47 _ (by omega), o 48 _ (by omega), o 49 _ (by omega), o 50 _ (by omega), o 51 _ (by omega), o 52 _ (by omega)]
  exact ⟨r.1, r.2.1, r.2.2.1, r.2.2.2.1, r.2.2.2.2.1, r.2.2.2.2.2.1, r.2.2.2.2.2.2.1, fun i hi => by rw [o 7 _ (by omega), o 53 _ (by omega)]; exact r.2.2.2.2.2.2.2 i hi⟩
theorem w_turn {post : gMem → Prop} {x t : Nat} (hx : x < 100) (ht : t < 100) (H : ∀ M1 : gMem, M1 = va_up M 29 (upd (M 29) t (nI x)) → ∀ M2 : gMem, M2 = va_up M1 30 (upd (M1 30) x (nI (t + 1))) → post M2) : wp_WR_giveTurn post (nI x) (nI t) M := by
  unfold wp_WR_giveTurn
  rw [nI_1, nI_clamp (by omega), nI_clamp (by omega)]
  exact q_le (a := 100) (fun c => by omega) (fun _ => q_le (a := 100) (fun c => by omega) (fun _ => ⟨vp_in_nI (by omega) (by omega), fun M1 e1 => ⟨vp_in_nI (by omega) (by omega), H M1 e1⟩⟩))
theorem w_order {post : gMem → Prop} (u : dSy M ns) (H : ∀ M', fr sOr M M' → (∀ x, x < ns → M' 29 (tn M ns x) = nI x ∧ M' 30 x = nI (tn M ns x + 1)) → M' 19 12 = nI (cnt (lc M) ns) → post M') : wp_WR_orderSymbols post M := by
  have hns := u.1
  have g2 : ∀ d k (M' : gMem), k + d = ns → fr sOr M M' → M' 19 12 = nI (cnt (lc M) ns) → (∀ x, x < ns → (lc M x = true ∨ x < k) → M' 29 (tn M ns x) = nI x ∧ M' 30 x = nI (tn M ns x + 1)) → wl_WR_orderSymbols_49 post (d + 1) (nI (cnt (lc M) ns + (k - cnt (lc M) k))) (nI k) M' := by
    intro d
    induction d with
    | zero =>
      intro k M' hk f e12 I
      have u' := dSy_fr (fun c j h => sOr_o f c j (by omega)) u
      unfold wl_WR_orderSymbols_49
      rw [u'.2.1]
      exact q_le (fun _ => H M' f (fun x hx => I x hx (Or.inr (by omega))) e12) (fun c => by omega)
    | succ d ih =>
      intro k M' hk f e12 I
      have u' := dSy_fr (fun c j h => sOr_o f c j (by omega)) u
      have hle := cnt_le (g := lc M) k
      have hle2 := cnt_le (g := lc M) ns
      have e50 : M' 6 (6 * k + 3) = M 50 k := ((u'.2.2.2 k (by omega)).2.2.2.1).trans (sOr_o f 50 k (by omega))
      have ec : cnt (lc M) (k + 1) = cnt (lc M) k + if lc M k = true then 1 else 0 := rfl
      unfold wl_WR_orderSymbols_49
      rw [u'.2.1, nI_1, nI_1]
      refine q_le (fun c => by omega) (fun _ => w_fact (k := 3) u'.2.1 hns (by omega) (by omega) ?_)
      rw [e50]
      refine ⟨fun c => q_x ?_, fun c => ?_⟩
      · have hl : lc M k = true := decide_eq_true c
        have := ih (k + 1) M' (by omega) f e12 (fun x hx w => I x hx (by
          rcases w with w | w
          · exact Or.inl w
          · by_cases cx : x = k
            · rw [cx]; exact Or.inl hl
            · exact Or.inr (by omega)))
        rw [ec, if_pos hl, show k + 1 - (cnt (lc M) k + 1) = k - cnt (lc M) k by omega] at this
        exact this
      · have hl : lc M k = false := decide_eq_false c
        have et : tn M ns k = cnt (lc M) ns + (k - cnt (lc M) k) := by unfold tn; rw [if_neg (by rw [hl]; decide)]
        have tl' := tn_lt (M := M) (show k < ns by omega)
        refine w_turn (by omega) (by omega) (fun M1 e1 M2 e2 => q_x (q_x ?_))
        have := ih (k + 1) M2 (by omega) (f.trans ((show fr sOr M' M1 by rw [e1]; exact fr_upd (Or.inl rfl)).trans (by rw [e2]; exact fr_upd (Or.inr (Or.inl rfl))))) (by rw [u_ne e2, u_ne e1]; exact e12) (fun x hx w => by
          by_cases cx : x = k
          · subst cx
            rw [et]
            exact ⟨by rw [u_ne e2]; exact u_at e1, u_at e2⟩
          · have i := I x hx (w.elim Or.inl (fun v => Or.inr (by omega)))
            have ne : tn M ns x ≠ cnt (lc M) ns + (k - cnt (lc M) k) := by
              rw [← et]; intro q; exact cx (tn_inj hx (by omega) q)
            exact ⟨by rw [u_ne e2, u_ne e1 (Or.inr ne)]; exact i.1, by rw [u_ne e2 (Or.inr cx), u_ne e1]; exact i.2⟩)
        rw [ec, hl, if_neg (by decide), show k + 1 - (cnt (lc M) k + 0) = k - cnt (lc M) k + 1 by omega] at this
        exact this
  have g1 : ∀ d k (M' : gMem), k + d = ns → fr sOr M M' → (∀ x, x < k → lc M x = true → M' 29 (tn M ns x) = nI x ∧ M' 30 x = nI (tn M ns x + 1)) → wl_WR_orderSymbols_4 post (d + 1) (nI (cnt (lc M) k)) (nI k) M' := by
    intro d
    induction d with
    | zero =>
      intro k M' hk f I
      have u' := dSy_fr (fun c j h => sOr_o f c j (by omega)) u
      unfold wl_WR_orderSymbols_4
      have ek : k = ns := by omega
      subst ek
      rw [u'.2.1]
      refine q_le (fun _ M1 e1 => ⟨k + 1, ?_⟩) (fun c => by omega)
      have := g2 k 0 M1 (by omega) (f.trans (by rw [e1]; exact fr_upd (Or.inr (Or.inr ⟨rfl, rfl⟩)))) (u_at e1) (fun x hx w => by
        have i := I x hx (by rcases w with w | w; exact w; omega)
        exact ⟨by rw [u_ne e1]; exact i.1, by rw [u_ne e1]; exact i.2⟩)
      exact this
    | succ d ih =>
      intro k M' hk f I
      have u' := dSy_fr (fun c j h => sOr_o f c j (by omega)) u
      have hle := cnt_le (g := lc M) k
      have e50 : M' 6 (6 * k + 3) = M 50 k := ((u'.2.2.2 k (by omega)).2.2.2.1).trans (sOr_o f 50 k (by omega))
      have ec : cnt (lc M) (k + 1) = cnt (lc M) k + if lc M k = true then 1 else 0 := rfl
      unfold wl_WR_orderSymbols_4
      rw [u'.2.1, nI_1, nI_1]
      refine q_le (fun c => by omega) (fun _ => w_fact (k := 3) u'.2.1 hns (by omega) (by omega) ?_)
      rw [e50]
      refine ⟨fun c => q_x ?_, fun c => ?_⟩
      · have hl : lc M k = false := decide_eq_false c
        have := ih (k + 1) M' (by omega) f (fun x hx w => I x (by
          by_cases cx : x = k
          · rw [cx, hl] at w; exact absurd w (by decide)
          · omega) w)
        rw [ec, hl, if_neg (by decide)] at this
        exact this
      · have hl : lc M k = true := decide_eq_true c
        have et : tn M ns k = cnt (lc M) k := by unfold tn; rw [if_pos hl]
        refine w_turn (by omega) (by omega) (fun M1 e1 M2 e2 => q_x (q_x ?_))
        have := ih (k + 1) M2 (by omega) (f.trans ((show fr sOr M' M1 by rw [e1]; exact fr_upd (Or.inl rfl)).trans (by rw [e2]; exact fr_upd (Or.inr (Or.inl rfl))))) (fun x hx w => by
          by_cases cx : x = k
          · subst cx
            rw [et]
            exact ⟨by rw [u_ne e2]; exact u_at e1, u_at e2⟩
          · have i := I x (by omega) w
            have ne : tn M ns x ≠ cnt (lc M) k := by
              rw [← et]; intro q; exact cx (tn_inj (by omega) (by omega) q)
            exact ⟨by rw [u_ne e2, u_ne e1 (Or.inr ne)]; exact i.1, by rw [u_ne e2 (Or.inr cx), u_ne e1]; exact i.2⟩)
        rw [ec, if_pos hl] at this
        exact this
  exact ⟨ns + 1, g1 ns 0 M (by omega) fr.refl (fun x hx => by omega)⟩
/-! the reference -/
def s71 (c j : Nat) : Prop := c = 71 ∧ j < 100
theorem m_order {post : Int32 → gMem → Prop} (hns : ns ≤ 100) (u2 : M 54 0 = nI ns) (H : ∀ M', fr s71 M M' → (∀ x, x < ns → M' 71 x = nI (tn M ns x)) → post (nI (cnt (lc M) ns)) M') : wp_MO_order post M := by
  have g2 : ∀ k6 d k (M' : gMem), k + d = ns → (∀ x1 M'', fr s71 M M'' → (∀ x, x < ns → M'' 71 x = nI (tn M ns x)) → k6 x1 (nI (cnt (lc M) ns)) (2 : Int32) M'') → fr s71 M M' → (∀ x, x < ns → (lc M x = true ∨ x < k) → M' 71 x = nI (tn M ns x)) → wl_MO_order_14 post k6 (d + 1) (nI (cnt (lc M) ns + (k - cnt (lc M) k))) (nI (cnt (lc M) ns)) (1 : Int32) (nI k) M' := by
    intro k6 d
    induction d with
    | zero =>
      intro k M' hk K f I
      unfold wl_MO_order_14
      rw [cl_0, f 54 0 (by unfold s71; omega), u2]
      exact ⟨in_02, q_le (fun _ => q_f' (by decide) (q_x (K _ M' f (fun x hx => I x hx (Or.inr (by omega)))))) (fun c => by omega)⟩
    | succ d ih =>
      intro k M' hk K f I
      have hle := cnt_le (g := lc M) k
      have e50 : M' 50 k = M 50 k := f 50 k (by unfold s71; omega)
      have ec : cnt (lc M) (k + 1) = cnt (lc M) k + if lc M k = true then 1 else 0 := rfl
      unfold wl_MO_order_14 wj_MO_order_40 wj_MO_order_49
      rw [cl_0, f 54 0 (by unfold s71; omega), u2, nI_clamp (by omega), e50, nI_1, nI_1]
      refine ⟨in_02, q_le (fun c => by omega) (fun _ => ⟨vp_in_nI (by omega) (by omega), fun c => q_f' (by decide) (q_t rfl ⟨vp_in_nI (by omega) (by omega), fun M1 e1 => q_x (q_x ?_)⟩), fun c => q_f' (by decide) (q_f (by decide) (q_x ?_))⟩)⟩
      · have hl : lc M k = false := decide_eq_false c
        have et : tn M ns k = cnt (lc M) ns + (k - cnt (lc M) k) := by unfold tn; rw [if_neg (by rw [hl]; decide)]
        have := ih (k + 1) M1 (by omega) K (f.trans (by rw [e1]; exact fr_upd ⟨rfl, by omega⟩)) (fun x hx w => by
          by_cases cx : x = k
          · subst cx; rw [et]; exact u_at e1
          · rw [u_ne e1]; exact I x hx (w.elim Or.inl (fun v => Or.inr (by omega))))
        rw [ec, hl, if_neg (by decide), show k + 1 - (cnt (lc M) k + 0) = k - cnt (lc M) k + 1 by omega] at this
        exact this
      · have hl : lc M k = true := decide_eq_true c
        have := ih (k + 1) M' (by omega) K f (fun x hx w => I x hx (by
          rcases w with w | w
          · exact Or.inl w
          · by_cases cx : x = k
            · rw [cx]; exact Or.inl hl
            · exact Or.inr (by omega)))
        rw [ec, if_pos hl, show k + 1 - (cnt (lc M) k + 1) = k - cnt (lc M) k by omega] at this
        exact this
  have g1 : ∀ k6 d k (M' : gMem), k + d = ns → (∀ M'', fr s71 M M'' → (∀ x, x < ns → lc M x = true → M'' 71 x = nI (tn M ns x)) → k6 (nI (cnt (lc M) ns)) (nI (cnt (lc M) ns)) (1 : Int32) M'') → fr s71 M M' → (∀ x, x < k → lc M x = true → M' 71 x = nI (tn M ns x)) → wl_MO_order_14 post k6 (d + 1) (nI (cnt (lc M) k)) (0 : Int32) (0 : Int32) (nI k) M' := by
    intro k6 d
    induction d with
    | zero =>
      intro k M' hk K f I
      have ek : k = ns := by omega
      subst ek
      unfold wl_MO_order_14
      rw [cl_0, f 54 0 (by unfold s71; omega), u2]
      exact ⟨in_02, q_le (fun _ => q_t' rfl (q_x (K M' f I))) (fun c => by omega)⟩
    | succ d ih =>
      intro k M' hk K f I
      have hle := cnt_le (g := lc M) k
      have e50 : M' 50 k = M 50 k := f 50 k (by unfold s71; omega)
      have ec : cnt (lc M) (k + 1) = cnt (lc M) k + if lc M k = true then 1 else 0 := rfl
      unfold wl_MO_order_14 wj_MO_order_40 wj_MO_order_49
      rw [cl_0, f 54 0 (by unfold s71; omega), u2, nI_clamp (by omega), e50, nI_1, nI_1]
      refine ⟨in_02, q_le (fun c => by omega) (fun _ => ⟨vp_in_nI (by omega) (by omega), fun c => q_t' rfl (q_f (by decide) (q_x ?_)), fun c => q_t' rfl (q_t rfl ⟨vp_in_nI (by omega) (by omega), fun M1 e1 => q_x (q_x ?_)⟩)⟩)⟩
      · have hl : lc M k = false := decide_eq_false c
        have := ih (k + 1) M' (by omega) K f (fun x hx w => I x (by
          by_cases cx : x = k
          · rw [cx, hl] at w; exact absurd w (by decide)
          · omega) w)
        rw [ec, hl, if_neg (by decide)] at this
        exact this
      · have hl : lc M k = true := decide_eq_true c
        have et : tn M ns k = cnt (lc M) k := by unfold tn; rw [if_pos hl]
        have := ih (k + 1) M1 (by omega) K (f.trans (by rw [e1]; exact fr_upd ⟨rfl, by omega⟩)) (fun x hx w => by
          by_cases cx : x = k
          · subst cx; rw [et]; exact u_at e1
          · rw [u_ne e1]; exact I x (by omega) w)
        rw [ec, if_pos hl] at this
        exact this
  have hle := cnt_le (g := lc M) ns
  refine ⟨3, ?_⟩
  unfold wl_MO_order_6
  refine q_f (by decide) ⟨ns + 1, g1 _ ns 0 M (by omega) (fun M1 f1 I1 => ?_) fr.refl (fun x hx => by omega)⟩
  unfold wl_MO_order_6
  refine q_f (by decide) ⟨ns + 1, ?_⟩
  have := g2 (wl_MO_order_6 post 1) ns 0 M1 (by omega) (fun x1 M2 f2 I2 => ?_) f1 (fun x hx w => I1 x hx (by rcases w with w | w; exact w; omega))
  · exact this
  · unfold wl_MO_order_6
    exact q_t (by decide) (H M2 f2 I2)
end
