/-! questions about the read object: symbolAt, relocationAt, count -/
section
theorem c_symbolAt {a b : Int32} {M : gMem} (h : pInv M) : wp_OF_symbolAt (fun r M1 => wp_MO_symbolAt (fun r' M2 => r = r' ∧ pInv M2) a b M1) a b M := by
  obtain ⟨n, hn, h1, h2, h3⟩ := h.2.1.2.2.2.1
  have no : (a < 0 ∨ ¬ a < nI n) → wp_MO_symbolAt (fun r' M2 => (-1 : Int32) = r' ∧ pInv M2) a b M := by
    intro c
    unfold wp_MO_symbolAt
    rw [cl_1, h2]
    refine ⟨fun _ => ⟨rfl, h⟩, fun d => ⟨in_12, fun e => ?_, fun _ => ⟨rfl, h⟩⟩⟩
    rcases c with c | c
    · exact absurd c d
    · exact absurd e c
  have fact : ∀ {post : Int32 → gMem → Prop} {k : Nat}, k < 6 → (a < 0 ∨ ¬ a < nI n → post (-1) M) → (∀ x : Nat, x < n → a = nI x → post (M 14 (6 * x + k)) M) → wp_CT_symbolFact_s post a (nI k) M := by
    intro post k hk p1 p2
    unfold wp_CT_symbolFact_s
    rw [h1]
    refine ⟨fun c => p1 (Or.inl c), fun c => ⟨fun c2 => p1 (Or.inr ?_), fun c2 => q_n0 ?_⟩⟩
    · rw [ti_lt]; rw [ti_le] at c2; omega
    · rw [ti_lt, Int32.toInt_zero] at c
      obtain ⟨x, hx, ex⟩ := ti_nat (x := a) (by omega)
      rw [ex, nI_leI (by omega) (by omega)] at c2
      have e6 : nI x * (6 : Int32) + nI k = nI (6 * x + k) := by rw [show (6 : Int32) = nI 6 from rfl, pk_mul, nI_add, Nat.mul_comm]
      rw [ex, e6, nI_clamp (by omega)]
      exact q_lt (b := 6) (fun _ => ⟨vp_in_nI (by omega) (by omega), p2 x (by omega) ex⟩) (fun c => by omega)
  unfold wp_OF_symbolAt
  refine ⟨fun c6 => ?_, fun c6 => ?_⟩
  · have c6' := c6
    rw [ti_le, show (6 : Int32).toInt = 6 from rfl] at c6
    have hb := ti_hi b
    have e6 : (b - 6).toInt = b.toInt - 6 := by rw [ti_sub] <;> rw [show (6 : Int32).toInt = 6 from rfl] <;> omega
    have n6 : ¬ b - 6 < 0 := by rw [ti_lt, e6, Int32.toInt_zero]; omega
    unfold wp_CT_nameCharacter_s
    refine ⟨fun d => absurd d n6, fun _ => fact (k := 5) (by omega) (fun c => ?_) (fun x hx ex => ?_)⟩
    · refine q_f ?_ (no c)
      rw [ti_lt, e6, show (-1 : Int32).toInt = -1 from rfl]; omega
    · have r := h3 x hx
      unfold rSy1 at r
      rw [show 100 * 1 + x = 100 + x by omega] at r
      obtain ⟨r1, r2, r3, r4, r5, r6, ok, rn⟩ := r
      have hl1 := ok.2.2.2.2.2.2.1
      have hl2 := ok.2.2.2.2.2.2.2.1
      obtain ⟨m, hm, em⟩ := ti_nat (x := M 52 (100 + x)) (by omega)
      rw [em, ti_nI hm] at hl1 hl2
      have en : M 14 (6 * x + 5) = nI m := r6.trans em
      rw [en]
      have ax : ¬ a < 0 := by rw [ex]; exact nI_pos (by omega)
      have an : a < nI n := by rw [ex, nI_ltI (by omega) (by omega)]; exact hx
      have mo : ∀ {post : Int32 → gMem → Prop}, (¬ nI m ≤ b - 6 → post (M 53 (16 * (100 + x) + (b.toInt - 6).toNat)) M) → (nI m ≤ b - 6 → post (-1) M) → wp_MO_symbolAt post a b M := by
        intro post p1 p2
        unfold wp_MO_symbolAt
        rw [cl_1, h2]
        refine q_f ax ⟨in_12, q_t an (q_x ?_)⟩
        rw [ex, show (100 : Int32) + nI x = nI (100 + x) from nI_add 100 x, nI_clamp (by omega), em]
        have nb : ∀ c : Int32, c.toInt < 6 → ¬ b = c := fun c hc e => by rw [e] at c6; omega
        refine q_f (nb 0 (by decide)) (q_f (nb 1 (by decide)) (q_f (nb 2 (by decide)) (q_f (nb 3 (by decide)) (q_f (nb 4 (by decide)) (q_f (nb 5 (by decide)) (q_f (by rw [ti_lt, show (6 : Int32).toInt = 6 from rfl]; omega) ⟨vp_in_nI (by omega) (by omega), p2, fun c => ?_⟩))))))
        have c' := c
        rw [ti_le, ti_nI hm, e6] at c
        have e53 : (16 : Int32) * nI (100 + x) + b - 6 = nI (16 * (100 + x) + (b.toInt - 6).toNat) := by
          obtain ⟨v, hv, ev⟩ := ti_nat (x := b) (by omega)
          rw [ev, ti_nI hv] at c ⊢
          rw [show (16 : Int32) = nI 16 from rfl, pk_mul, nI_add, show (6 : Int32) = nI 6 from rfl, pk_sub (by rw [ev, ti_nI hv] at c6; omega)]
          congr 1
          rw [ev, ti_nI hv] at c6
          omega
        rw [e53, nI_clamp (by omega)]
        exact ⟨vp_in_nI (by omega) (by omega), p1 c'⟩
      have e15 : a * (16 : Int32) + (b - 6) = nI (16 * x + (b.toInt - 6).toNat) := by
        obtain ⟨v, hv, ev⟩ := ti_nat (x := b) (by omega)
        rw [ev, ti_nI hv] at c6
        rw [ev, ti_nI hv, ex, show (6 : Int32) = nI 6 from rfl, pk_sub (by omega), show (16 : Int32) = nI 16 from rfl, pk_mul, nI_add]
        congr 1
        omega
      refine ⟨fun c => ?_, fun c => mo (fun c2 => absurd (by rw [ti_le]; rw [ti_lt] at c; omega) c2) (fun _ => ⟨rfl, h⟩)⟩
      have c' := c
      rw [ti_lt, ti_nI hm, e6] at c
      rw [e15, nI_clamp (by omega)]
      refine ⟨vp_in_nI (by omega) (by omega), mo (fun _ => ⟨?_, h⟩) (fun c2 => absurd c' (by rw [ti_lt]; rw [ti_le] at c2; omega))⟩
      exact (rn (b.toInt - 6).toNat (by rw [em, ti_nI hm]; omega)).1
  · rw [ti_le, show (6 : Int32).toInt = 6 from rfl] at c6
    by_cases cb : b.toInt < 0
    · have bn : b < 0 := by rw [ti_lt, Int32.toInt_zero]; exact cb
      have mo : wp_MO_symbolAt (fun r' M2 => (-1 : Int32) = r' ∧ pInv M2) a b M := by
        by_cases ca : a < 0 ∨ ¬ a < nI n
        · exact no ca
        · have a1 : ¬ a < 0 := fun w => ca (Or.inl w)
          have a2 : a < nI n := Classical.byContradiction fun w => ca (Or.inr w)
          unfold wp_MO_symbolAt
          rw [cl_1, h2]
          have nb : ∀ c : Int32, 0 ≤ c.toInt → ¬ b = c := fun c hc e => by rw [e] at cb; omega
          exact q_f a1 ⟨in_12, q_t a2 (q_x (q_f (nb 0 (by decide)) (q_f (nb 1 (by decide)) (q_f (nb 2 (by decide)) (q_f (nb 3 (by decide)) (q_f (nb 4 (by decide)) (q_f (nb 5 (by decide)) (q_t (by rw [ti_lt, show (6 : Int32).toInt = 6 from rfl]; omega) ⟨rfl, h⟩))))))))⟩
      unfold wp_CT_symbolFact_s
      exact ⟨fun _ => mo, fun _ => ⟨fun _ => mo, fun _ => q_t bn mo⟩⟩
    · obtain ⟨k, hk, ek⟩ := ti_nat (x := b) (by omega)
      rw [ek, ti_nI hk] at c6
      rw [ek]
      rw [ek] at no
      refine fact (by omega) no (fun x hx ex => ?_)
      have r := h3 x hx
      unfold rSy1 at r
      rw [show 100 * 1 + x = 100 + x by omega] at r
      obtain ⟨r1, r2, r3, r4, r5, r6, ok, rn⟩ := r
      have ax : ¬ a < 0 := by rw [ex]; exact nI_pos (by omega)
      have an : a < nI n := by rw [ex, nI_ltI (by omega) (by omega)]; exact hx
      unfold wp_MO_symbolAt
      dsimp only
      rw [cl_1, h2]
      refine q_f ax ⟨in_12, q_t an (q_x ?_)⟩
      have v : vp_in (nI (100 + x)) 200 := vp_in_nI (by omega) (by omega)
      rw [ex, show (100 : Int32) + nI x = nI (100 + x) from nI_add 100 x, nI_clamp (by omega)]
      rcases (by omega : k = 0 ∨ k = 1 ∨ k = 2 ∨ k = 3 ∨ k = 4 ∨ k = 5) with e | e | e | e | e | e
      · subst e; exact q_t rfl ⟨v, r1, h⟩
      · subst e; exact q_f (by decide) (q_t rfl ⟨v, r2, h⟩)
      · subst e; exact q_f (by decide) (q_f (by decide) (q_t rfl ⟨v, r3, h⟩))
      · subst e; exact q_f (by decide) (q_f (by decide) (q_f (by decide) (q_t rfl ⟨v, r4, h⟩)))
      · subst e; exact q_f (by decide) (q_f (by decide) (q_f (by decide) (q_f (by decide) (q_t rfl ⟨v, r5, h⟩))))
      · subst e; exact q_f (by decide) (q_f (by decide) (q_f (by decide) (q_f (by decide) (q_f (by decide) (q_t rfl ⟨v, r6, h⟩)))))
theorem c_relocationAt {a b : Int32} {M : gMem} (h : pInv M) : wp_OF_relocationAt (fun r M1 => wp_MO_relocationAt (fun r' M2 => r = r' ∧ pInv M2) a b M1) a b M := by
  obtain ⟨n, hn, h1, h2, h3⟩ := h.2.1.2.2.2.2
  have no : (a < 0 ∨ ¬ a < nI n) → wp_MO_relocationAt (fun r' M2 => (-1 : Int32) = r' ∧ pInv M2) a b M := by
    intro c
    unfold wp_MO_relocationAt
    rw [cl_1, h2]
    refine ⟨fun _ => ⟨rfl, h⟩, fun d => ⟨in_12, fun e => ?_, fun _ => ⟨rfl, h⟩⟩⟩
    rcases c with c | c
    · exact absurd c d
    · exact absurd e c
  unfold wp_OF_relocationAt wp_CT_relocationFact_s
  rw [h1]
  refine ⟨fun c => no (Or.inl c), fun c => ⟨fun c2 => no (Or.inr ?_), fun c2 => ?_⟩⟩
  · rw [ti_lt]; rw [ti_le] at c2; omega
  have ax := c
  rw [ti_lt, Int32.toInt_zero] at c
  obtain ⟨x, hx, ex⟩ := ti_nat (x := a) (by omega)
  rw [ex, nI_leI (by omega) (by omega)] at c2
  have an : a < nI n := by rw [ex, nI_ltI (by omega) (by omega)]; omega
  have mo : (∀ k : Int32, (0 ≤ k.toInt ∧ k.toInt < 5) → ¬ b = k) → wp_MO_relocationAt (fun r' M2 => (-1 : Int32) = r' ∧ pInv M2) a b M := by
    intro nb
    unfold wp_MO_relocationAt
    rw [cl_1, h2]
    exact q_f ax ⟨in_12, q_t an (q_x (q_f' (nb 0 (by decide)) (q_f' (nb 1 (by decide)) (q_f' (nb 2 (by decide)) (q_f' (nb 3 (by decide)) (q_f' (nb 4 (by decide)) ⟨rfl, h⟩))))))⟩
  refine ⟨fun c3 => mo (fun k hk e => ?_), fun c3 => ⟨fun c4 => ?_, fun c4 => mo (fun k hk e => ?_)⟩⟩
  · rw [ti_lt, Int32.toInt_zero, e] at c3; omega
  · rw [ti_lt, Int32.toInt_zero] at c3
    rw [ti_lt, show (5 : Int32).toInt = 5 from rfl] at c4
    obtain ⟨k, hk, ek⟩ := ti_nat (x := b) (by omega)
    rw [ek, ti_nI hk] at c4
    have r := h3 x (by omega)
    unfold rRe1 at r
    rw [show 300 * 1 + x = 300 + x by omega] at r
    obtain ⟨r1, r2, r3, r4, r5, ok⟩ := r
    have e5 : nI x * (5 : Int32) + nI k = nI (5 * x + k) := by rw [show (5 : Int32) = nI 5 from rfl, pk_mul, nI_add, Nat.mul_comm]
    unfold wp_MO_relocationAt
    dsimp only
    rw [cl_1, h2]
    have v : vp_in (nI (300 + x)) 600 := vp_in_nI (by omega) (by omega)
    rw [ex] at ax an
    rw [ex, ek, e5, nI_clamp (by omega)]
    refine ⟨vp_in_nI (by omega) (by omega), q_f ax ⟨in_12, q_t an (q_x ?_)⟩⟩
    rw [show (300 : Int32) + nI x = nI (300 + x) from nI_add 300 x, nI_clamp (by omega)]
    rcases (by omega : k = 0 ∨ k = 1 ∨ k = 2 ∨ k = 3 ∨ k = 4) with e | e | e | e | e
    · subst e; exact q_t' rfl ⟨v, r1, h⟩
    · subst e; exact q_f' (by decide) (q_t' rfl ⟨v, r2, h⟩)
    · subst e; exact q_f' (by decide) (q_f' (by decide) (q_t' rfl ⟨v, r3, h⟩))
    · subst e; exact q_f' (by decide) (q_f' (by decide) (q_f' (by decide) (q_t' rfl ⟨v, r4, h⟩)))
    · subst e; exact q_f' (by decide) (q_f' (by decide) (q_f' (by decide) (q_f' (by decide) (q_t' rfl ⟨v, r5, h⟩))))
  · rw [ti_lt, show (5 : Int32).toInt = 5 from rfl, e] at c4; omega
def cnt (g : Nat → Bool) : Nat → Nat
  | 0 => 0
  | k + 1 => cnt g k + if g k = true then 1 else 0
theorem cnt_le {g : Nat → Bool} : ∀ k, cnt g k ≤ k := by
  intro k
  induction k with
  | zero => exact Nat.le_refl 0
  | succ k ih => unfold cnt; split <;> omega
theorem w_sh {post : Bool → gMem → Prop} {a : Int32} {M : gMem} (h : post (!decide ((a &&& (3 : Int32)) = 3)) M) : wp_OF_isShort post a M := by
  unfold wp_OF_isShort
  refine ⟨fun d => ?_, fun d => ?_⟩
  · rw [decide_eq_true d] at h; exact h
  · rw [decide_eq_false d] at h; exact h
theorem m_sh {post : Bool → gMem → Prop} {a : Int32} {M : gMem} (h : post (!decide ((a &&& (3 : Int32)) = 3)) M) : wp_MO_isShort post a M := by
  unfold wp_MO_isShort
  refine ⟨fun d => ?_, fun d => ?_⟩
  · rw [decide_eq_true d] at h; exact h
  · rw [decide_eq_false d] at h; exact h
def shG (o : Nat) (M : gMem) (k : Nat) : Bool := !decide ((M 42 (6144 * o + (M 45 (1024 * o + k)).toInt.toNat) &&& (3 : Int32)) = 3)
theorem c_count {a : Int32} {M : gMem} (h : pInv M) : wp_OF_count (fun r M1 => wp_MO_count (fun r' M2 => r = r' ∧ pInv M2) a M1) a M := by
  obtain ⟨n, hn, h1, h2, h3, h4⟩ := h.2.1.2.2.1
  obtain ⟨nu, hnu, u1, u2, u3⟩ := h.2.1.2.2.2.1
  obtain ⟨ne, hne, e1, e2, e3⟩ := h.2.1.2.2.2.2
  have hin := h.2.2.2.2.2.2.2
  have hz := h.2.1.1 0 (by omega)
  have st : ∀ k, k < n → ∃ v : Nat, v < 2048 ∧ M 45 (1024 + k) = nI v ∧ M 13 k = nI v ∧ nI v < M 11 0 := by
    intro k hk
    have a1 := h3 k hk
    rw [show 1024 * 1 + k = 1024 + k by omega] at a1
    obtain ⟨v, hv, ev⟩ := ti_nat a1.2.1
    have a2 := hin k (by rw [h2, ti_nI (by omega)]; omega)
    refine ⟨v, ?_, ev, a1.1.trans ev, ?_⟩
    · have := a1.2.2.1; rw [ev, ti_nI hv] at this; omega
    · rw [show M 11 0 = M 43 4 from hz.1, ti_lt, ← ev]; exact a2
  have mo : ∀ {post : Int32 → gMem → Prop}, ((a = 0 → post (nI n) M) ∧ (a = 1 → post (nI nu) M) ∧ (a = 2 → post (nI ne) M) ∧ (a = 3 → post (nI (cnt (shG 1 M) n)) M) ∧ (¬ a = 0 → ¬ a = 1 → ¬ a = 2 → ¬ a = 3 → post (-1) M)) → wp_MO_count post a M := by
    intro post H
    have go : ∀ d k, k + d = n → wl_MO_count_4 post (d + 1) a (nI (cnt (shG 1 M) k)) (nI k) M := by
      intro d
      induction d with
      | zero =>
        intro k hk
        unfold wl_MO_count_4
        rw [cl_1, h2, u2, e2]
        have e : k = n := by omega
        refine ⟨in_12, q_le (fun _ => ⟨fun c0 => ⟨fun c1 => ⟨fun c2 => ⟨fun c3 => H.2.2.2.2 c0 c1 c2 c3, fun c3 => ?_⟩, fun c2 => ⟨in_12, H.2.2.1 c2⟩⟩, fun c1 => ⟨in_12, H.2.1 c1⟩⟩, fun c0 => ⟨in_12, H.1 c0⟩⟩) (fun c => by omega)⟩
        rw [e]; exact H.2.2.2.1 c3
      | succ d ih =>
        intro k hk
        unfold wl_MO_count_4
        obtain ⟨v, hv, ev, -, -⟩ := st k (by omega)
        rw [cl_1, h2, show (1024 : Int32) + nI k = nI (1024 + k) from nI_add 1024 k, nI_clamp (by omega), ev, show (6144 : Int32) + nI v = nI (6144 + v) from nI_add 6144 v, nI_clamp (by omega)]
        refine ⟨in_12, q_le (fun c => by omega) (fun _ => ⟨vp_in_nI (by omega) (by omega), vp_in_nI (by omega) (by omega), m_sh ?_⟩)⟩
        have hs := ih (k + 1) (by omega)
        have eg : shG 1 M k = !decide ((M 42 (6144 + v) &&& (3 : Int32)) = 3) := by
          unfold shG
          rw [show 1024 * 1 + k = 1024 + k by omega, ev, ti_nI (by omega)]
          rfl
        rw [show cnt (shG 1 M) (k + 1) = cnt (shG 1 M) k + if shG 1 M k = true then 1 else 0 from rfl] at hs
        rw [← eg]
        refine q_b (fun z => q_x (q_x ?_)) (fun z => q_x (q_x ?_))
        · rw [z, if_neg (by decide)] at hs
          rw [nI_1, show nI (cnt (shG 1 M) k) + (0 : Int32) = nI (cnt (shG 1 M) k + 0) from nI_add _ 0]
          exact hs
        · rw [z, if_pos rfl] at hs
          rw [nI_1, nI_1]
          exact hs
    exact ⟨n + 1, go n 0 (by omega)⟩
  unfold wp_OF_count
  rw [h1, u1, e1]
  refine ⟨fun c => mo ⟨fun _ => ⟨rfl, h⟩, fun d => absurd (c.symm.trans d) (by decide), fun d => absurd (c.symm.trans d) (by decide), fun d => absurd (c.symm.trans d) (by decide), fun d => absurd c d⟩, fun c0 => ⟨fun c => mo ⟨fun d => absurd d c0, fun _ => ⟨rfl, h⟩, fun d => absurd (c.symm.trans d) (by decide), fun d => absurd (c.symm.trans d) (by decide), fun _ d => absurd c d⟩, fun c1 => ⟨fun c => mo ⟨fun d => absurd d c0, fun d => absurd d c1, fun _ => ⟨rfl, h⟩, fun d => absurd (c.symm.trans d) (by decide), fun _ _ d => absurd c d⟩, fun c2 => ⟨fun c => ?_, fun c3 => mo ⟨fun d => absurd d c0, fun d => absurd d c1, fun d => absurd d c2, fun d => absurd d c3, fun _ _ _ _ => ⟨rfl, h⟩⟩⟩⟩⟩⟩
  have fin : wp_MO_count (fun r' M2 => nI (cnt (shG 1 M) n) = r' ∧ pInv M2) a M := mo ⟨fun d => absurd d c0, fun d => absurd d c1, fun d => absurd d c2, fun _ => ⟨rfl, h⟩, fun _ _ _ d => absurd c d⟩
  have go : ∀ d k, k + d = n → wl_CT_shortStarts_s_4 (fun r1 M2 => wp_MO_count (fun r' M2 => r1 = r' ∧ pInv M2) a M2) (d + 1) (nI (cnt (shG 1 M) k)) (nI k) M := by
    intro d
    induction d with
    | zero =>
      intro k hk
      unfold wl_CT_shortStarts_s_4
      rw [h1]
      have e : k = n := by omega
      refine q_le (fun _ => ?_) (fun c => by omega)
      rw [e]; exact fin
    | succ d ih =>
      intro k hk
      unfold wl_CT_shortStarts_s_4 wp_CT_startOf_s wp_CT_byteOf_s
      obtain ⟨v, hv, ev, ev2, lv⟩ := st k (by omega)
      rw [h1]
      refine q_le (fun c => by omega) (fun _ => q_n0 (q_lt (fun _ => ⟨vp_in_nI (by omega) (by omega), ?_⟩) (fun c => by omega)))
      rw [nI_clamp (by omega), ev2]
      refine q_f (by decide) (q_f (by decide) (q_n0 ⟨by unfold vp_in; decide, q_t lv ?_⟩))
      have e0 : (0 : Int32) * (2048 : Int32) + nI v = nI (0 + v) := nI_add 0 v
      rw [e0, show 0 + v = v by omega, nI_clamp (by omega)]
      refine ⟨vp_in_nI (by omega) (by omega), w_sh ?_⟩
      have hby := h.2.1.2.1 0 v (by omega) (by
        rw [show 4 * 1 + 0 = 4 by omega]
        rw [show M 11 0 = M 43 4 from hz.1, ti_lt, ti_nI (by omega)] at lv
        exact lv)
      rw [show 2048 * 0 + v = v by omega, show 6144 * 1 + 2048 * 0 + v = 6144 + v by omega] at hby
      have hby' : M 10 v &&& 255 = M 42 (6144 + v) := hby
      rw [hby']
      have hs := ih (k + 1) (by omega)
      have eg : shG 1 M k = !decide ((M 42 (6144 + v) &&& (3 : Int32)) = 3) := by
        unfold shG
        rw [show 1024 * 1 + k = 1024 + k by omega, ev, ti_nI (by omega)]
        rfl
      rw [show cnt (shG 1 M) (k + 1) = cnt (shG 1 M) k + if shG 1 M k = true then 1 else 0 from rfl] at hs
      rw [← eg]
      refine q_b (fun z => q_x ?_) (fun z => q_x (q_x ?_))
      · rw [z, if_neg (by decide)] at hs
        rw [nI_1]
        exact hs
      · rw [z, if_pos rfl] at hs
        rw [nI_1, nI_1]
        exact hs
  exact ⟨n + 1, go n 0 (by omega)⟩
end
