/-! write: what does not fit -/
section
variable {M : gMem} {nt ns nr : Nat}
def dSz (M : gMem) : Prop := ∀ s, s < 4 → M 3 s = M 43 s ∧ 0 ≤ (M 43 s).toInt ∧ (M 43 s).toInt ≤ (if s = 3 then 4096 else 2048) ∧ M 4 s = M 44 s ∧ pPow (M 44 s)
def dBy (M : gMem) : Prop := ∀ s k : Nat, s < 3 → (k : Int) < (M 43 s).toInt → M 2 (2048 * s + k) &&& 255 = M 42 (2048 * s + k)
def dSt (M : gMem) (n : Nat) : Prop := n ≤ 1024 ∧ M 1 4 = nI n ∧ M 46 0 = nI n ∧ (∀ k, k < n → M 5 k = M 45 k ∧ 0 ≤ (M 45 k).toInt ∧ (M 45 k).toInt ≤ 2046) ∧ ∀ k, k + 1 < n → (M 45 k).toInt < (M 45 (k + 1)).toInt
def dSy (M : gMem) (n : Nat) : Prop := n ≤ 100 ∧ M 1 7 = nI n ∧ M 54 0 = nI n ∧ ∀ x, x < n → M 6 (6 * x) = M 47 x ∧ M 6 (6 * x + 1) = M 48 x ∧ M 6 (6 * x + 2) = M 49 x ∧ M 6 (6 * x + 3) = M 50 x ∧ M 6 (6 * x + 4) = M 51 x ∧ M 6 (6 * x + 5) = M 52 x ∧ pSymOk (M 47 x) (M 48 x) (M 49 x) (M 50 x) (M 51 x) (M 52 x) ∧ ∀ i : Nat, (i : Int) < (M 52 x).toInt → M 7 (16 * x + i) = M 53 (16 * x + i) ∧ 33 ≤ (M 53 (16 * x + i)).toInt ∧ (M 53 (16 * x + i)).toInt ≤ 126
def dRe (M : gMem) (ns n : Nat) : Prop := n ≤ 300 ∧ M 1 9 = nI n ∧ M 60 0 = nI n ∧ ∀ x, x < n → M 8 (5 * x) = M 55 x ∧ M 8 (5 * x + 1) = M 56 x ∧ M 8 (5 * x + 2) = M 57 x ∧ M 8 (5 * x + 3) = M 58 x ∧ M 8 (5 * x + 4) = M 59 x ∧ pRelOk (M 55 x) (M 56 x) (M 57 x) (M 58 x) (M 59 x) (ns : Int)
/-- the made object, class and reference alike -/
def dW (M : gMem) (nt ns nr : Nat) : Prop := dSz M ∧ dBy M ∧ dSt M nt ∧ dSy M ns ∧ dRe M ns nr
theorem dW_of (R : rOb 1 0 M) : ∃ nt ns nr, dW M nt ns nr := by
  obtain ⟨z, y, ⟨nt, t0, t1, t2, t3, t4⟩, ⟨ns, u0, u1, u2, u3⟩, ⟨nr, v0, v1, v2, v3⟩⟩ := R
  refine ⟨nt, ns, nr, fun s hs => ?_, fun s k hs hk => ?_, ⟨t0, t1, t2, fun k hk => ?_, fun k hk => ?_⟩, ⟨u0, u1, u2, fun x hx => ?_⟩, ⟨v0, v1, v2, fun x hx => ?_⟩⟩
  · have := z s hs
    rw [show 4 * 0 + s = s by omega] at this
    exact this
  · have := y s k hs (by rw [show 4 * 0 + s = s by omega]; exact hk)
    rw [show 6144 * 0 + 2048 * s + k = 2048 * s + k by omega] at this
    exact this
  · have := t3 k hk
    rw [show 1024 * 0 + k = k by omega] at this
    exact ⟨this.1, this.2.1, this.2.2.1⟩
  · have := t4 k hk
    rw [show 1024 * 0 + k = k by omega, show 1024 * 0 + (k + 1) = k + 1 by omega] at this
    exact this
  · have := u3 x hx
    unfold rSy1 at this
    rw [show 100 * 0 + x = x by omega] at this
    exact this
  · have := v3 x hx
    have u2' : M 54 0 = nI ns := u2
    unfold rRe1 at this
    rw [show 300 * 0 + x = x by omega, u2', ti_nI (by omega)] at this
    exact this
theorem w_rfact {post : Int32 → gMem → Prop} {n x k : Nat} (u1 : M 1 9 = nI n) (hn : n ≤ 300) (hx : x < n) (hk : k < 5) (H : post (M 8 (5 * x + k)) M) : wp_CT_relocationFact_m post (nI x) (nI k) M := by
  unfold wp_CT_relocationFact_m
  rw [u1]
  have e6 : nI x * (5 : Int32) + nI k = nI (5 * x + k) := by rw [show (5 : Int32) = nI 5 from rfl, pk_mul, nI_add, Nat.mul_comm]
  rw [e6, nI_clamp (by omega)]
  exact q_n0 (q_le (fun c => by omega) (fun _ => q_n0 (q_lt (b := 5) (fun _ => ⟨vp_in_nI (by omega) (by omega), H⟩) (fun c => by omega))))
/-- starts, symbols, relocations that go beyond their section -/
def bySt (M : gMem) (n : Nat) : Prop := ∃ k, k < n ∧ ¬ M 45 k < M 43 0
def bySy1 (M : gMem) (x : Nat) : Prop := ¬ M 47 x < 0 ∧ ¬ (4 : Int32) ≤ M 47 x ∧ ¬ (M 48 x).toInt64 + (M 49 x).toInt64 ≤ (M 43 (M 47 x).toNatClampNeg).toInt64
def byRe1 (M : gMem) (x : Nat) : Prop := ¬ (M 56 x).toInt64 + (wd (M 57 x) (M 59 x)).toInt64 ≤ (M 43 (M 55 x).toNatClampNeg).toInt64
def bySy (M : gMem) (n : Nat) : Prop := ∃ x, x < n ∧ bySy1 M x
def byRe (M : gMem) (n : Nat) : Prop := ∃ x, x < n ∧ byRe1 M x
theorem st_mono (h : dSt M nt) : ∀ d k, k + d < nt → (M 45 k).toInt ≤ (M 45 (k + d)).toInt := by
  intro d
  induction d with
  | zero => intro k _; exact Int.le_refl _
  | succ d ih =>
    intro k hk
    have h1 := ih k (by omega)
    have h2 := h.2.2.2.2 (k + d) (by omega)
    rw [show k + (d + 1) = k + d + 1 by omega]
    omega
theorem w_stB {post : Bool → gMem → Prop} (D : dW M nt ns nr) (h1 : bySt M nt → post true M) (h2 : ¬ bySt M nt → post false M) : wp_CT_startGoesBeyond_m post M := by
  obtain ⟨z, y, t, u, e⟩ := D
  have z0 := z 0 (by omega)
  unfold wp_CT_startGoesBeyond_m wp_CT_latestStart_m wp_CT_startOf_m
  dsimp only
  rw [t.2.1, cl_0, z0.1]
  have i4' : vp_in (0 : Int32) 4 := by unfold vp_in; decide
  by_cases c : nt = 0
  · subst c
    refine q_t (by decide) ⟨i4', fun _ => h2 ?_, fun w => ?_⟩
    · rintro ⟨k, hk, _⟩; omega
    · exfalso; apply w; rw [ti_lt, show (-1 : Int32).toInt = -1 from rfl]; omega
  · rw [show nI nt - (1 : Int32) = nI (nt - 1) from pk_sub (b := 1) (by omega)]
    have h0 := t.1
    have hl := (t.2.2.2.1 (nt - 1) (by omega)).1
    refine q_n0 (q_lt (fun _ => ⟨vp_in_nI (by omega) (by omega), i4', ?_⟩) (fun c => by omega))
    rw [nI_clamp (by omega), hl]
    refine ⟨fun w => h2 ?_, fun w => h1 ⟨nt - 1, by omega, w⟩⟩
    rintro ⟨k, hk, nk⟩
    apply nk
    have := st_mono t (nt - 1 - k) k (by omega)
    rw [show k + (nt - 1 - k) = nt - 1 by omega] at this
    rw [ti_lt] at w ⊢
    omega
theorem w_syB {post : Bool → gMem → Prop} (D : dW M nt ns nr) (h1 : bySy M ns → post true M) (h2 : ¬ bySy M ns → post false M) : wp_CT_symbolGoesBeyond_m post M := by
  obtain ⟨z, y, t, u, e⟩ := D
  have go : ∀ d x, x + d = ns → ¬ bySy M x → wl_CT_symbolGoesBeyond_m_2 post (d + 1) (nI x) M := by
    have hns := u.1
    intro d
    induction d with
    | zero =>
      intro x hx no
      have ex : x = ns := by omega
      subst ex
      unfold wl_CT_symbolGoesBeyond_m_2
      rw [u.2.1]
      exact q_le (fun _ => h2 no) (fun c => by omega)
    | succ d ih =>
      intro x hx no
      unfold wl_CT_symbolGoesBeyond_m_2
      have r := u.2.2.2 x (by omega)
      have step : ¬ bySy1 M x → ¬ bySy M (x + 1) := by
        rintro a ⟨v, hv, b⟩
        by_cases c : v = x
        · subst c; exact a b
        · exact no ⟨v, by omega, b⟩
      have e3 : ∀ a : Int32, (¬ (3 : Int32) < a) ↔ ¬ (4 : Int32) ≤ a := fun a => by rw [ti_lt, ti_le, show (3 : Int32).toInt = 3 from rfl, show (4 : Int32).toInt = 4 from rfl]; omega
      rw [u.2.1, nI_1]
      refine q_le (fun c => by omega) (fun _ => w_fact (k := 0) u.2.1 hns (by omega) (by omega) ?_)
      rw [show 6 * x + 0 = 6 * x by omega, r.1]
      refine ⟨fun c => q_x (ih (x + 1) (by omega) (step (fun b => b.1 c))), fun c => ⟨fun c2 => q_x (ih (x + 1) (by omega) (step (fun b => (e3 _).mpr b.2.1 c2))), fun c2 => w_fact (k := 1) u.2.1 hns (by omega) (by omega) (w_fact (k := 2) u.2.1 hns (by omega) (by omega) ?_)⟩⟩
      have c3 := c
      have c4 := c2
      rw [ti_lt, Int32.toInt_zero] at c3
      rw [ti_lt, show (3 : Int32).toInt = 3 from rfl] at c4
      obtain ⟨s, hs, es⟩ := ti_nat (x := M 47 x) (by omega)
      rw [es, ti_nI hs] at c4
      rw [r.2.1, r.2.2.1, es, nI_clamp (by omega), (z s (by omega)).1]
      refine ⟨vp_in_nI (by omega) (by omega), fun c5 => q_x (ih (x + 1) (by omega) (step (fun b => b.2.2 ?_))), fun c5 => h1 ⟨x, by omega, c, (e3 _).mp c2, ?_⟩⟩
      · rw [es, nI_clamp (by omega)]; exact c5
      · rw [es, nI_clamp (by omega)]; exact c5
  exact ⟨ns + 1, go ns 0 (by omega) (by rintro ⟨x, hx, _⟩; omega)⟩
theorem w_reB {post : Bool → gMem → Prop} (D : dW M nt ns nr) (h1 : byRe M nr → post true M) (h2 : ¬ byRe M nr → post false M) : wp_CT_relocationGoesBeyond_m post M := by
  obtain ⟨z, y, t, u, e⟩ := D
  have go : ∀ d x, x + d = nr → ¬ byRe M x → wl_CT_relocationGoesBeyond_m_2 post (d + 1) (nI x) M := by
    have hnr := e.1
    intro d
    induction d with
    | zero =>
      intro x hx no
      have ex : x = nr := by omega
      subst ex
      unfold wl_CT_relocationGoesBeyond_m_2
      rw [e.2.1]
      exact q_le (fun _ => h2 no) (fun c => by omega)
    | succ d ih =>
      intro x hx no
      unfold wl_CT_relocationGoesBeyond_m_2
      have r := e.2.2.2 x (by omega)
      have ok := r.2.2.2.2.2
      have step : ¬ byRe1 M x → ¬ byRe M (x + 1) := by
        rintro a ⟨v, hv, b⟩
        by_cases c : v = x
        · subst c; exact a b
        · exact no ⟨v, by omega, b⟩
      rw [e.2.1, nI_1]
      refine q_le (fun c => by omega) (fun _ => w_rfact (k := 0) e.2.1 hnr (by omega) (by omega) (w_rfact (k := 2) e.2.1 hnr (by omega) (by omega) (w_rfact (k := 4) e.2.1 hnr (by omega) (by omega) ?_)))
      rw [show 5 * x + 0 = 5 * x by omega, r.1, r.2.2.1, r.2.2.2.2.1]
      refine w_width (fun _ => ?_) (fun k => absurd ok.2.2.2.1 k)
      have s1 := ok.1
      have s2 := ok.2.1
      obtain ⟨s, hs, es⟩ := ti_nat (x := M 55 x) (by omega)
      rw [es, ti_nI hs] at s2
      have n2 : ¬ (2 : Int32) < M 55 x := by rw [es, ti_lt, ti_nI hs, show (2 : Int32).toInt = 2 from rfl]; omega
      have n0 : ¬ M 55 x < 0 := by rw [es]; exact nI_pos hs
      refine q_f n0 (q_f n2 (w_rfact (k := 1) e.2.1 hnr (by omega) (by omega) ?_))
      rw [r.2.1, es, nI_clamp (by omega), (z s (by omega)).1]
      refine ⟨vp_in_nI (by omega) (by omega), fun c5 => q_x (ih (x + 1) (by omega) (step (fun b => b ?_))), fun c5 => h1 ⟨x, by omega, ?_⟩⟩
      · rw [es, nI_clamp (by omega)]; exact c5
      · show ¬ _
        rw [es, nI_clamp (by omega)]; exact c5
  exact ⟨nr + 1, go nr 0 (by omega) (by rintro ⟨x, hx, _⟩; omega)⟩
theorem m_unfit {post : Int32 → gMem → Prop} (D : dW M nt ns nr) (h1 : bySt M nt → post (-1) M) (h2 : ¬ bySt M nt → bySy M ns → post (-2) M) (h3 : ¬ bySt M nt → ¬ bySy M ns → byRe M nr → post (-3) M) (h4 : ¬ bySt M nt → ¬ bySy M ns → ¬ byRe M nr → post 0 M) : wp_MO_unfit post M := by
  obtain ⟨z, y, t, u, e⟩ := D
  have hnt := t.1
  have hns := u.1
  have hnr := e.1
  have g3 : ¬ bySt M nt → ¬ bySy M ns → ∀ d x, x + d = nr → ¬ byRe M x → wl_MO_unfit_108 post (d + 1) (nI x) M := by
    intro b1 b2 d
    induction d with
    | zero =>
      intro x hx no
      have ex : x = nr := by omega
      subst ex
      unfold wl_MO_unfit_108
      rw [cl_0, e.2.2.1]
      exact ⟨in_02, q_le (fun _ => h4 b1 b2 no) (fun c => by omega)⟩
    | succ d ih =>
      intro x hx no
      unfold wl_MO_unfit_108
      have ok := (e.2.2.2 x (by omega)).2.2.2.2.2
      have step : ¬ byRe1 M x → ¬ byRe M (x + 1) := by
        rintro a ⟨v, hv, b⟩
        by_cases c : v = x
        · subst c; exact a b
        · exact no ⟨v, by omega, b⟩
      have s1 := ok.1
      have s2 := ok.2.1
      obtain ⟨s, hs, es⟩ := ti_nat (x := M 55 x) (by omega)
      rw [es, ti_nI hs] at s2
      have v6 : vp_in (nI x) 600 := vp_in_nI (by omega) (by omega)
      rw [cl_0, e.2.2.1, nI_1, nI_clamp (show x < 2 ^ 31 by omega)]
      refine ⟨in_02, q_le (fun c => by omega) (fun _ => ⟨v6, v6, v6, m_width ⟨v6, ?_⟩⟩)⟩
      rw [es, nI_clamp (show s < 2 ^ 31 by omega)]
      refine ⟨vp_in_nI (by omega) (by omega), fun c5 => q_x (ih (x + 1) (by omega) (step (fun b => b ?_))), fun c5 => h3 b1 b2 ⟨x, by omega, ?_⟩⟩
      · rw [es, nI_clamp (by omega)]; exact c5
      · show ¬ _
        rw [es, nI_clamp (by omega)]; exact c5
  have g2 : ¬ bySt M nt → ∀ d x, x + d = ns → ¬ bySy M x → wl_MO_unfit_37 post (d + 1) (nI x) M := by
    intro b1 d
    induction d with
    | zero =>
      intro x hx no
      have ex : x = ns := by omega
      subst ex
      unfold wl_MO_unfit_37
      rw [cl_0, u.2.2.1]
      exact ⟨in_02, q_le (fun _ => ⟨nr + 1, g3 b1 no nr 0 (by omega) (by rintro ⟨x, hx, _⟩; omega)⟩) (fun c => by omega)⟩
    | succ d ih =>
      intro x hx no
      unfold wl_MO_unfit_37
      have step : ¬ bySy1 M x → ¬ bySy M (x + 1) := by
        rintro a ⟨v, hv, b⟩
        by_cases c : v = x
        · subst c; exact a b
        · exact no ⟨v, by omega, b⟩
      have v2 : vp_in (nI x) 200 := vp_in_nI (by omega) (by omega)
      rw [cl_0, u.2.2.1, nI_1, nI_clamp (show x < 2 ^ 31 by omega)]
      refine ⟨in_02, q_le (fun c => by omega) (fun _ => ⟨v2, fun c => q_x (ih (x + 1) (by omega) (step (fun b => b.1 c))), fun c => ⟨v2, fun c2 => q_x (ih (x + 1) (by omega) (step (fun b => b.2.1 c2))), fun c2 => ⟨v2, v2, v2, ?_⟩⟩⟩)⟩
      have c3 := c
      have c4 := c2
      rw [ti_lt, Int32.toInt_zero] at c3
      rw [ti_le, show (4 : Int32).toInt = 4 from rfl] at c4
      obtain ⟨s, hs, es⟩ := ti_nat (x := M 47 x) (by omega)
      rw [es, ti_nI hs] at c4
      refine ⟨by rw [es]; exact vp_in_nI (by omega) (by omega), fun c5 => q_x (ih (x + 1) (by omega) (step (fun b => b.2.2 c5))), fun c5 => h2 b1 ⟨x, by omega, c, c2, c5⟩⟩
  have g1 : ∀ d k, k + d = nt → ¬ bySt M k → wl_MO_unfit_2 post (d + 1) (nI k) M := by
    intro d
    induction d with
    | zero =>
      intro k hk no
      have ex : k = nt := by omega
      subst ex
      unfold wl_MO_unfit_2
      rw [cl_0, t.2.2.1]
      exact ⟨in_02, q_le (fun _ => ⟨ns + 1, g2 no ns 0 (by omega) (by rintro ⟨x, hx, _⟩; omega)⟩) (fun c => by omega)⟩
    | succ d ih =>
      intro k hk no
      unfold wl_MO_unfit_2
      rw [cl_0, t.2.2.1, nI_1, nI_clamp (show k < 2 ^ 31 by omega)]
      refine ⟨in_02, q_le (fun c => by omega) (fun _ => ⟨vp_in_nI (by omega) (by omega), (by unfold vp_in; decide), fun c => q_x (ih (k + 1) (by omega) ?_), fun c => h1 ⟨k, by omega, c⟩⟩)⟩
      rintro ⟨v, hv, b⟩
      by_cases cv : v = k
      · subst cv; exact b c
      · exact no ⟨v, by omega, b⟩
  exact ⟨nt + 1, g1 nt 0 (by omega) (by rintro ⟨x, hx, _⟩; omega)⟩
end
