/-! write: lengths and places of the parts -/
section
variable {M D : gMem} {nt ns nr : Nat}
def up (a b : Nat) : Nat := (a + b - 1) / b * b
theorem and_neg {x k : Nat} {c : Int32} (hx : x < 2 ^ 31) (hk : k < 8) (hc : ∀ i, i < 32 → c.toBitVec.getLsbD i = decide (k ≤ i)) : nI x &&& c = nI (x / 2 ^ k * 2 ^ k) := by
  have hle : x / 2 ^ k * 2 ^ k ≤ x := Nat.div_mul_le_self x _
  apply Int32.toBitVec_inj.mp
  apply BitVec.eq_of_getLsbD_eq
  intro i hi
  rw [Int32.toBitVec_and, BitVec.getLsbD_and, hc i hi]
  have e : ∀ n, n < 2 ^ 31 → (nI n).toBitVec.getLsbD i = n.testBit i := by
    intro n hn
    unfold BitVec.getLsbD
    rw [pk_tn (by omega)]
  rw [e x hx, e _ (by omega), ← Nat.shiftRight_eq_div_pow, ← Nat.shiftLeft_eq, Nat.testBit_shiftLeft]
  by_cases c : k ≤ i
  · rw [decide_eq_true c, Nat.testBit_shiftRight]
    simp [c, show k + (i - k) = i by omega]
  · simp [c]
theorem up_and {a b : Nat} (ha : a < 2 ^ 30) (hb : pw b) : ((nI a + nI b) - (1 : Int32)) &&& -(nI b) = nI (up a b) := by
  have hb2 : 1 ≤ b ∧ b ≤ 64 := by rcases hb with e | e | e | e | e | e | e <;> omega
  rw [nI_add, show nI (a + b) - (1 : Int32) = nI (a + b - 1) from pk_sub (b := 1) (by omega)]
  unfold up
  rcases hb with e | e | e | e | e | e | e
  · subst e; exact and_neg (k := 0) (by omega) (by omega) (by decide)
  · subst e; exact and_neg (k := 1) (by omega) (by omega) (by decide)
  · subst e; exact and_neg (k := 2) (by omega) (by omega) (by decide)
  · subst e; exact and_neg (k := 3) (by omega) (by omega) (by decide)
  · subst e; exact and_neg (k := 4) (by omega) (by omega) (by decide)
  · subst e; exact and_neg (k := 5) (by omega) (by omega) (by decide)
  · subst e; exact and_neg (k := 6) (by omega) (by omega) (by decide)
theorem up_b {a b : Nat} (hb : 1 ≤ b) : a ≤ up a b ∧ up a b < a + b := by
  unfold up
  have h1 := Nat.div_add_mod (a + b - 1) b
  have h2 := Nat.mod_lt (a + b - 1) (show b > 0 by omega)
  rw [Nat.mul_comm] at h1
  omega
theorem w_up {post : Int32 → gMem → Prop} {a b : Nat} (ha : a < 2 ^ 30) (hb : pw b) (H : post (nI (up a b)) M) : wp_WR_upTo post (nI a) (nI b) M := by
  unfold wp_WR_upTo
  rw [up_and ha hb]
  exact H
theorem m_up {post : Int32 → gMem → Prop} {a b : Nat} (ha : a < 2 ^ 30) (hb : pw b) (H : post (nI (up a b)) M) : wp_MO_roundUp post (nI a) (nI b) M := by
  have hb2 : 1 ≤ b ∧ b ≤ 64 := by rcases hb with e | e | e | e | e | e | e <;> omega
  unfold wp_MO_roundUp
  refine ⟨nI_ne0 (by omega) (by omega), ?_⟩
  rw [nI_add, show nI (a + b) - (1 : Int32) = nI (a + b - 1) from pk_sub (b := 1) (by omega), pk_div (by omega) (by omega) (by omega), pk_mul]
  exact H
/-- numbers of the parts -/
def lnS (D : gMem) (s : Nat) : Nat := (D 43 s).toInt.toNat
def rcS (D : gMem) (nr s : Nat) : Nat := cnt (fun x => decide (D 55 x = nI s)) nr
noncomputable def W9 (D : gMem) (nt ns nr p : Nat) : Nat := if p < 4 then lnS D p else if p = 4 then 2 * nt else if p < 8 then 12 * rcS D nr (p - 5) else if p = 8 then 16 * (1 + ns) else if p = 9 then (SN D ns ns).2 else 0
noncomputable def lnP (D : gMem) (nt ns nr p : Nat) : Nat := if p = 10 then (SL (W9 D nt ns nr) 11).2 else W9 D nt ns nr p
theorem lnS_e (d : dW D nt ns nr) {s : Nat} (hs : s < 4) : D 43 s = nI (lnS D s) ∧ lnS D s ≤ 4096 ∧ (s < 3 → lnS D s ≤ 2048) ∧ D 3 s = nI (lnS D s) := by
  have z := d.1 s hs
  obtain ⟨n, hn, e⟩ := ti_nat z.2.1
  have e2 : lnS D s = n := by unfold lnS; rw [e, ti_nI hn]; rfl
  have h3 := z.2.2.1
  rw [e, ti_nI hn] at h3
  rw [e2]
  refine ⟨e, ?_, fun h => ?_, z.1.trans e⟩
  · split at h3 <;> omega
  · rw [if_neg (by omega)] at h3; omega
theorem W9_b (d : dW D nt ns nr) {p : Nat} : W9 D nt ns nr p ≤ 4096 := by
  have h1 := d.2.2.1.1
  have h2 := d.2.2.2.1.1
  have h3 := d.2.2.2.2.1
  have h4 := (SN_L d.2.2.2.1 (Nat.le_refl ns)).2
  have h5 : ∀ s, rcS D nr s ≤ nr := fun s => cnt_le nr
  unfold W9
  split
  · next c => exact (lnS_e d c).2.1
  split
  · omega
  split
  · have := h5 (p - 5); omega
  split
  · omega
  split
  · omega
  · omega
theorem lnP_b (d : dW D nt ns nr) {p : Nat} : lnP D nt ns nr p ≤ 4096 := by
  unfold lnP
  split
  · have := (SL_L (W := W9 D nt ns nr) (Nat.le_refl 11)).2; omega
  · exact W9_b d
theorem w_relOf {post : Int32 → gMem → Prop} {s : Nat} (E : eqD D M) (e : dRe D ns nr) (H : post (nI (rcS D nr s)) M) : wp_CT_relocationsOf_m post (nI s) M := by
  have hnr := e.1
  have e19 : M 1 9 = nI nr := (E 1 9 (by omega)).trans e.2.1
  have go : ∀ d x, x + d = nr → wl_CT_relocationsOf_m_4 post (d + 1) (nI s) (nI (cnt (fun x => decide (D 55 x = nI s)) x)) (nI x) M := by
    intro d
    induction d with
    | zero =>
      intro x hx
      have ex : x = nr := by omega
      subst ex
      unfold wl_CT_relocationsOf_m_4
      rw [e19]
      exact q_le (fun _ => H) (fun c => by omega)
    | succ d ih =>
      intro x hx
      have i := ih (x + 1) (by omega)
      unfold wl_CT_relocationsOf_m_4
      have r : M 8 (5 * x + 0) = D 55 x := (E 8 _ (by omega)).trans (e.2.2.2 x (by omega)).1
      rw [show cnt (fun x => decide (D 55 x = nI s)) (x + 1) = cnt (fun x => decide (D 55 x = nI s)) x + if decide (D 55 x = nI s) = true then 1 else 0 from rfl] at i
      rw [e19, show nI x + (1 : Int32) = nI (x + 1) from nI_1 x, nI_1]
      refine q_le (fun c => by omega) (fun _ => w_rfact (k := 0) e19 hnr (by omega) (by omega) ?_)
      rw [r]
      refine ⟨fun c => q_x ?_, fun c => q_x (q_x ?_)⟩
      · rw [decide_eq_false c, if_neg (by decide)] at i; exact i
      · rw [decide_eq_true c, if_pos rfl] at i; exact i
  exact ⟨nr + 1, go nr 0 (by omega)⟩
theorem m_relOf {post : Int32 → gMem → Prop} {s : Nat} (E : eqD D M) (e : dRe D ns nr) (H : post (nI (rcS D nr s)) M) : wp_MO_relocationsOf post (nI s) M := by
  have hnr := e.1
  have e60 : M 60 0 = nI nr := (E 60 0 (by omega)).trans e.2.2.1
  have go : ∀ d x, x + d = nr → wl_MO_relocationsOf_4 post (d + 1) (nI s) (nI (cnt (fun x => decide (D 55 x = nI s)) x)) (nI x) M := by
    intro d
    induction d with
    | zero =>
      intro x hx
      have ex : x = nr := by omega
      subst ex
      unfold wl_MO_relocationsOf_4
      rw [cl_0, e60]
      exact ⟨in_02, q_le (fun _ => H) (fun c => by omega)⟩
    | succ d ih =>
      intro x hx
      have i := ih (x + 1) (by omega)
      unfold wl_MO_relocationsOf_4
      rw [show cnt (fun x => decide (D 55 x = nI s)) (x + 1) = cnt (fun x => decide (D 55 x = nI s)) x + if decide (D 55 x = nI s) = true then 1 else 0 from rfl] at i
      rw [cl_0, e60, show nI x + (1 : Int32) = nI (x + 1) from nI_1 x, nI_1, nI_clamp (by omega), E 55 x (by omega)]
      refine ⟨in_02, q_le (fun c => by omega) (fun _ => ⟨vp_in_nI (by omega) (by omega), fun c => q_x (q_x ?_), fun c => q_x (q_x ?_)⟩)⟩
      · rw [decide_eq_false c, if_neg (by decide)] at i
        rw [show nI (cnt (fun x => decide (D 55 x = nI s)) x) + (0 : Int32) = nI (cnt (fun x => decide (D 55 x = nI s)) x + 0) from nI_add _ 0]
        exact i
      · rw [decide_eq_true c, if_pos rfl] at i; exact i
  exact ⟨nr + 1, go nr 0 (by omega)⟩
theorem s28_D {S : Nat → Nat → Prop} (h : ∀ c j, S c j → c = 28 ∨ c = 27 ∨ c = 19) : ∀ c j, (1 ≤ c ∧ c ≤ 8 ∨ 42 ≤ c ∧ c ≤ 61 ∨ c = 63 ∨ c = 64) → ¬ S c j := fun c j h1 h2 => by have := h c j h2; omega
theorem w_measure {post : gMem → Prop} (E : eqD D M) (d : dW D nt ns nr) (hb : rFb M) (h20 : M 20 1 = nI (SN D ns ns).2) (H : ∀ M', fr (fun c _ => c = 28) M M' → rFb M' → (∀ p, p < 10 → M' 28 p = nI (W9 D nt ns nr p)) → post M') : wp_WR_measureParts post M := by
  have hnt := d.2.2.1.1
  have hns := d.2.2.2.1.1
  unfold wp_WR_measureParts
  refine pk_loop (fun k s M' => wl_WR_measureParts_2 post k (nI s) M') (fun s M' => fr (fun c _ => c = 28) M M' ∧ rFb M' ∧ ∀ p, p < s → M' 28 p = nI (lnS D p)) 4 0 M (by omega) ⟨fr.refl, hb, fun p hp => by omega⟩ ?_ ?_
  · rintro k M' ⟨h1, h2, h3⟩
    have E' := eqD_fr h1 (s28_D (by omega)) E
    unfold wl_WR_measureParts_2
    rw [E' 1 4 (by omega), d.2.2.1.2.1, cl_4, show (2 : Int32) * nI nt = nI (2 * nt) from pk_mul 2 nt]
    refine q_lt (a := 3) (fun _ => ⟨in_4, fun M1 e1 => ?_⟩) (fun c => by omega)
    have f1 : fr (fun c _ => c = 28) M M1 := h1.trans (by rw [e1]; exact fr_upd rfl)
    refine pk_loop (fun k s M' => wl_WR_measureParts_45 post k (nI s) M') (fun s M' => fr (fun c _ => c = 28) M M' ∧ rFb M' ∧ (∀ p, p < 4 → M' 28 p = nI (lnS D p)) ∧ M' 28 4 = nI (2 * nt) ∧ ∀ t, t < s → M' 28 (5 + t) = nI (12 * rcS D nr t)) 3 0 M1 (by omega) ⟨f1, upB e1 h2, fun p hp => by rw [u_ne e1]; exact h3 p hp, u_at e1, fun p hp => by omega⟩ ?_ ?_
    · rintro k2 M2 ⟨g1, g2, g3, g4, g5⟩
      have E2 := eqD_fr g1 (s28_D (by omega)) E
      unfold wl_WR_measureParts_45
      rw [E2 1 7 (by omega), d.2.2.2.1.2.1, cl_8, cl_9, show (1 : Int32) + nI ns = nI (1 + ns) from nI_add 1 ns, show (16 : Int32) * nI (1 + ns) = nI (16 * (1 + ns)) from pk_mul 16 (1 + ns)]
      refine q_lt (a := 2) (fun _ => ⟨in_8, fun M3 e3 => ⟨in_9, fun M4 e4 => ?_⟩⟩) (fun c => by omega)
      rw [show M3 20 1 = nI (SN D ns ns).2 by rw [u_ne e3, g1 20 1 (by omega)]; exact h20] at e4
      refine H M4 (g1.trans ((show fr (fun c _ => c = 28) M2 M3 by rw [e3]; exact fr_upd rfl).trans (by rw [e4]; exact fr_upd rfl))) (upB e4 (upB e3 g2)) (fun p hp => ?_)
      unfold W9
      by_cases c1 : p < 4
      · rw [if_pos c1, u_ne e4, u_ne e3]; exact g3 p c1
      · rw [if_neg c1]
        by_cases c2 : p = 4
        · rw [if_pos c2, c2, u_ne e4, u_ne e3]; exact g4
        · rw [if_neg c2]
          by_cases c3 : p < 8
          · rw [if_pos c3, u_ne e4, u_ne e3]
            have := g5 (p - 5) (by omega)
            rw [show 5 + (p - 5) = p by omega] at this
            exact this
          · rw [if_neg c3]
            by_cases c4 : p = 8
            · rw [if_pos c4, c4, u_ne e4]; exact u_at e3
            · rw [if_neg c4, if_pos (by omega), show p = 9 by omega]; exact u_at e4
    · rintro k2 s M2 hs ⟨g1, g2, g3, g4, g5⟩ K
      have E2 := eqD_fr g1 (s28_D (by omega)) E
      have hrc : rcS D nr s ≤ 300 := Nat.le_trans (cnt_le nr) d.2.2.2.2.1
      unfold wl_WR_measureParts_45
      rw [show nI s + (1 : Int32) = nI (s + 1) from nI_1 s, show (5 : Int32) + nI s = nI (5 + s) from nI_add 5 s, nI_clamp (by omega)]
      refine q_lt (a := 2) (fun c => by omega) (fun _ => w_relOf E2 d.2.2.2.2 ⟨vp_in_nI (by omega) (by omega), fun M3 e3 => q_x ?_⟩)
      rw [show (12 : Int32) * nI (rcS D nr s) = nI (12 * rcS D nr s) from pk_mul 12 _] at e3
      refine K M3 ⟨g1.trans (by rw [e3]; exact fr_upd rfl), upB e3 g2, fun p hp => by rw [u_ne e3]; exact g3 p hp, by rw [u_ne e3]; exact g4, fun t ht => ?_⟩
      by_cases ct : t = s
      · subst ct; exact u_at e3
      · rw [u_ne e3]; exact g5 t (by omega)
  · rintro k s M' hs ⟨h1, h2, h3⟩ K
    have E' := eqD_fr h1 (s28_D (by omega)) E
    unfold wl_WR_measureParts_2
    rw [nI_1, nI_clamp (by omega), E' 3 s (by omega), (lnS_e d hs).2.2.2]
    refine q_lt (a := 3) (fun c => by omega) (fun _ => ⟨vp_in_nI (by omega) (by omega), vp_in_nI (by omega) (by omega), fun M1 e1 => q_x ?_⟩)
    refine K M1 ⟨h1.trans (by rw [e1]; exact fr_upd rfl), upB e1 h2, fun p hp => ?_⟩
    by_cases cp : p = s
    · subst cp; exact u_at e1
    · rw [u_ne e1]; exact h3 p (by omega)
/-- places -/
def alP (D : gMem) (p : Nat) : Nat := if p < 4 then (D 44 p).toInt.toNat else if p = 4 then 2 else if p < 9 then 4 else 1
theorem pPow_n {x : Int32} (h : pPow x) : ∃ a : Nat, pw a ∧ x = nI a ∧ x.toInt.toNat = a := by
  rcases h with e | e | e | e | e | e | e
  · exact ⟨1, Or.inl rfl, e, by rw [e]; rfl⟩
  · exact ⟨2, Or.inr (Or.inl rfl), e, by rw [e]; rfl⟩
  · exact ⟨4, Or.inr (Or.inr (Or.inl rfl)), e, by rw [e]; rfl⟩
  · exact ⟨8, Or.inr (Or.inr (Or.inr (Or.inl rfl))), e, by rw [e]; rfl⟩
  · exact ⟨16, Or.inr (Or.inr (Or.inr (Or.inr (Or.inl rfl)))), e, by rw [e]; rfl⟩
  · exact ⟨32, Or.inr (Or.inr (Or.inr (Or.inr (Or.inr (Or.inl rfl))))), e, by rw [e]; rfl⟩
  · exact ⟨64, Or.inr (Or.inr (Or.inr (Or.inr (Or.inr (Or.inr rfl))))), e, by rw [e]; rfl⟩
theorem alP_e (d : dW D nt ns nr) {p : Nat} : pw (alP D p) ∧ (p < 4 → D 44 p = nI (alP D p) ∧ D 4 p = nI (alP D p)) := by
  unfold alP
  by_cases c : p < 4
  · rw [if_pos c]
    have z := d.1 p c
    obtain ⟨a, ha, e1, e2⟩ := pPow_n z.2.2.2.2
    rw [e2]
    exact ⟨ha, fun _ => ⟨e1, z.2.2.2.1.trans e1⟩⟩
  · rw [if_neg c]
    refine ⟨?_, fun w => absurd w c⟩
    split
    · exact Or.inr (Or.inl rfl)
    split
    · exact Or.inr (Or.inr (Or.inl rfl))
    · exact Or.inl rfl
theorem pw_b {a : Nat} (h : pw a) : 1 ≤ a ∧ a ≤ 64 := by rcases h with e | e | e | e | e | e | e <;> omega
noncomputable def cu (D : gMem) (nt ns nr : Nat) : Nat → Nat
  | 0 => 52
  | p + 1 => if p = 3 then cu D nt ns nr p else if thW (W9 D nt ns nr) p = true then up (cu D nt ns nr p) (alP D p) + lnP D nt ns nr p else cu D nt ns nr p
noncomputable def bgP (D : gMem) (nt ns nr p : Nat) : Nat := if p = 3 then cu D nt ns nr p else up (cu D nt ns nr p) (alP D p)
noncomputable def tbP (D : gMem) (nt ns nr : Nat) : Nat := up (cu D nt ns nr 11) 4
theorem cu_b (d : dW D nt ns nr) : ∀ p, 52 ≤ cu D nt ns nr p ∧ cu D nt ns nr p ≤ 52 + 5000 * p := by
  intro p
  induction p with
  | zero => exact ⟨Nat.le_refl _, by show 52 ≤ _; omega⟩
  | succ p ih =>
    have h1 := pw_b (alP_e d (p := p)).1
    have h2 := up_b (a := cu D nt ns nr p) h1.1
    have h3 := lnP_b d (p := p)
    unfold cu
    split
    · omega
    split
    · omega
    · omega
theorem tb0_e : ∀ p, p < 11 → 4 ≤ p → gTb0.getD p 0 = nI (if p = 4 then 2 else if p < 9 then 4 else 1) := by decide
theorem w_align {post : Int32 → gMem → Prop} {p : Nat} (hp : p < 11) (E : eqD D M) (d : dW D nt ns nr) (H : post (nI (alP D p)) M) : wp_WR_alignmentOf post (nI p) M := by
  unfold wp_WR_alignmentOf
  rw [nI_clamp (by omega)]
  refine q_lt (a := 3) (fun c => ⟨vp_in_nI (by omega) (by omega), ?_⟩) (fun c => ⟨vp_in_nI (by omega) (by omega), ?_⟩)
  · rw [tb0_e p hp (by omega)]
    unfold alP at H
    rw [if_neg (by omega)] at H
    exact H
  · rw [E 4 p (by omega), ((alP_e d (p := p)).2 (by omega)).2]; exact H
def sLp (c j : Nat) : Prop := c = 27 ∨ (c = 19 ∧ j = 14)
theorem sLp_D : ∀ c j, (1 ≤ c ∧ c ≤ 8 ∨ 42 ≤ c ∧ c ≤ 61 ∨ c = 63 ∨ c = 64) → ¬ sLp c j := by unfold sLp; omega
theorem w_lay {post : gMem → Prop} (E : eqD D M) (d : dW D nt ns nr) (hb : rFb M) (h28 : ∀ p, p < 11 → M 28 p = nI (lnP D nt ns nr p)) (H : ∀ M', fr sLp M M' → rFb M' → (∀ p, p < 11 → thW (W9 D nt ns nr) p = true → M' 27 p = nI (bgP D nt ns nr p)) → M' 19 14 = nI (tbP D nt ns nr) → post M') : wp_WR_layParts post M := by
  have go : ∀ dd p (M' : gMem), p + dd = 11 → fr sLp M M' → rFb M' → (∀ q, q < p → thW (W9 D nt ns nr) q = true → M' 27 q = nI (bgP D nt ns nr q)) → wl_WR_layParts_5 post (dd + 1) (nI (cu D nt ns nr p)) (nI p) M' := by
    intro dd
    induction dd with
    | zero =>
      intro p M' hp f b I
      have hc := cu_b d p
      have ep : p = 11 := by omega
      subst ep
      unfold wl_WR_layParts_5
      refine q_le (a := 11) (fun _ => w_up (b := 4) (by omega) (by unfold pw; omega) (fun M3 e3 => H M3 (f.trans (by rw [e3]; exact fr_upd (Or.inr ⟨rfl, rfl⟩))) (upB e3 b) (fun q hq w => by rw [u_ne e3]; exact I q hq w) (u_at e3))) (fun c => by omega)
    | succ dd ih =>
      intro p M' hp f b I
      have hc := cu_b d p
      have hl := lnP_b d (p := p)
      have ha := (alP_e d (p := p)).1
      have hab := pw_b ha
      have hu := up_b (a := cu D nt ns nr p) hab.1
      have E' := eqD_fr f sLp_D E
      have ec : cu D nt ns nr (p + 1) = if p = 3 then cu D nt ns nr p else if thW (W9 D nt ns nr) p = true then up (cu D nt ns nr p) (alP D p) + lnP D nt ns nr p else cu D nt ns nr p := rfl
      unfold wl_WR_layParts_5
      rw [show nI p + (1 : Int32) = nI (p + 1) from nI_1 p]
      refine q_le (a := 11) (fun c => by omega) (fun _ => q_ne (b := 3) (fun c3 => ?_) (fun c3 => ⟨vp_in_nI (n := 3) (by omega) (by omega), fun M4 e4 => q_x ?_⟩))
      · rw [if_neg c3] at ec
        refine w_isThere (W := W9 D nt ns nr) (by omega) (fun c1 c2 => ?_) (by have := W9_b d (p := p); omega) ?_
        · rw [f 28 p (by unfold sLp; omega), h28 p (by omega)]
          unfold lnP
          rw [if_neg (by omega)]
        · cases ht : thW (W9 D nt ns nr) p
          · rw [ht, if_neg (by decide)] at ec
            refine q_t rfl (q_x ?_)
            rw [← ec]
            refine ih (p + 1) M' (by omega) f b (fun q hq w => ?_)
            by_cases cq : q = p
            · subst cq; rw [ht] at w; exact absurd w (by decide)
            · exact I q (by omega) w
          · rw [ht, if_pos rfl] at ec
            refine q_f (by decide) (w_align (by omega) E' d (w_up (by omega) ha ⟨vp_in_nI (by omega) (by omega), fun M4 e4 => ⟨vp_in_nI (by omega) (by omega), vp_in_nI (by omega) (by omega), q_x (q_x ?_)⟩⟩))
            rw [nI_clamp (by omega)] at e4
            rw [nI_clamp (by omega), u_at e4, u_ne e4, f 28 p (by unfold sLp; omega), h28 p (by omega), nI_add, ← ec]
            have eb : bgP D nt ns nr p = up (cu D nt ns nr p) (alP D p) := by unfold bgP; rw [if_neg c3]
            refine ih (p + 1) M4 (by omega) (f.trans (by rw [e4]; exact fr_upd (Or.inl rfl))) (upB e4 b) (fun q hq w => ?_)
            by_cases cq : q = p
            · subst cq; rw [eb]; exact u_at e4
            · rw [u_ne e4]; exact I q (by omega) w
      · rw [if_pos c3] at ec
        rw [show ((3 : Int32)).toNatClampNeg = 3 from rfl] at e4
        have eb : bgP D nt ns nr p = cu D nt ns nr p := by unfold bgP; rw [if_pos c3]
        rw [← ec]
        refine ih (p + 1) M4 (by omega) (f.trans (by rw [e4]; exact fr_upd (Or.inl rfl))) (upB e4 b) (fun q hq w => ?_)
        by_cases cq : q = p
        · subst cq; rw [eb, c3]; rw [c3] at e4; exact u_at e4
        · rw [u_ne e4]; exact I q (by omega) w
  exact ⟨12, go 11 0 M (by omega) fr.refl hb (fun q hq => by omega)⟩
end
