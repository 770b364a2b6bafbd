/-! write: which parts there are, their numbers and labels -/
section
variable {M : gMem} {W : Nat → Nat}
def thW (W : Nat → Nat) (p : Nat) : Bool := decide (p < 4 ∨ 8 ≤ p ∨ 0 < W p)
def enW (W : Nat → Nat) (p : Nat) : Nat := if thW W p = true then 1 + cnt (thW W) p else 0
def wfL (t i : Nat) : Int32 := nI (tc t i)
def SL (W : Nat → Nat) (p : Nat) : (Nat → Int32) × Nat := sts (thW W) wfL gSl p
def plL (W : Nat → Nat) (p : Nat) : Nat := plc (SL W p) (wfL p) (gSl p)
theorem SL_L {p : Nat} (hp : p ≤ 11) : 1 ≤ (SL W p).2 ∧ (SL W p).2 ≤ 1 + 13 * p := sts_L (b := 12) (fun k hk => (tc_l k (by omega)).2)
theorem SL_t {p : Nat} (h : thW W p = true) : SL W (p + 1) = stp (SL W p) (wfL p) (gSl p) := by
  unfold SL
  exact if_pos h
theorem SL_f {p : Nat} (h : thW W p = false) : SL W (p + 1) = SL W p := by
  unfold SL
  exact if_neg (by rw [h]; decide)
theorem en_le {p : Nat} : enW W p ≤ 1 + p := by
  have := cnt_le (g := thW W) p
  unfold enW
  split <;> omega
theorem w_isThere {post : Bool → gMem → Prop} {p : Nat} (hp : p < 11) (h28 : 4 ≤ p → p < 8 → M 28 p = nI (W p)) (hW : W p < 2 ^ 31) (H : post (thW W p) M) : wp_WR_isThere post (nI p) M := by
  unfold wp_WR_isThere
  refine q_le (b := 3) (fun c => ?_) (fun c => q_le (a := 8) (fun c2 => ?_) (fun c2 => ⟨vp_in_nI (by omega) (by omega), ?_⟩))
  · rw [thW, decide_eq_true (by omega)] at H; exact H
  · rw [thW, decide_eq_true (by omega)] at H; exact H
  · rw [nI_clamp (by omega), h28 (by omega) c2]
    refine q_le (b := 0) (fun c3 => ?_) (fun c3 => ?_)
    · rw [thW, decide_eq_false (by omega)] at H; exact H
    · rw [thW, decide_eq_true (by omega)] at H; exact H
theorem w_labelOf {post : Nat → gMem → Prop} {p : Nat} (hp : p < 11) (H : post p M) : wp_OF_labelOf post (nI p) M := by
  unfold wp_OF_labelOf
  rcases (by omega : p = 0 ∨ p = 1 ∨ p = 2 ∨ p = 3 ∨ p = 4 ∨ p = 5 ∨ p = 6 ∨ p = 7 ∨ p = 8 ∨ p = 9 ∨ p = 10) with e | e | e | e | e | e | e | e | e | e | e
  all_goals
    subst e
    repeat (first | exact H | refine q_f (by decide) ?_ | refine q_t rfl ?_)
theorem b_id {v : Nat} (h : v < 128) : vp_nar .byte ((nI v).toInt8.toInt32) = nI v := by
  rw [nar_b]
  have e : (nI v).toInt8.toInt32 = nI v := i8_id (by rw [ti_nI (by omega)]; omega) (by rw [ti_nI (by omega)]; omega)
  rw [e, e]
theorem w_spell {post : Int32 → gMem → Prop} {p : Nat} (hp : p < 11) (hb : rFb M) (H : ∀ M', fr (fun c _ => c = 24) M M' → rFb M' → (∀ i, i < gSl p → M' 24 i = wfL p i) → post (nI (gSl p)) M') : wp_WR_spell post (nI p) M := by
  have hl := tc_l p hp
  unfold wp_WR_spell
  refine w_labelOf hp ⟨hp, q_x ?_⟩
  have e3 : (if (16 : Int32) < gSlen p then (16 : Int32) else gSlen p) = nI (gSl p) := by
    have e : gSlen p = nI (gSl p) := rfl
    rw [e, if_neg]
    rw [ti_lt, ti_nI (by omega), show (16 : Int32).toInt = 16 from rfl]
    omega
  rw [e3]
  refine pk_loop (fun k i M' => wl_WR_spell_18 post k p (nI (gSl p)) (nI i) M') (fun i M' => fr (fun c _ => c = 24) M M' ∧ rFb M' ∧ ∀ j, j < i → M' 24 j = wfL p j) (gSl p) 0 M (by omega) ⟨fr.refl, hb, fun j hj => by omega⟩ ?_ ?_
  · rintro k M' ⟨h1, h2, h3⟩
    unfold wl_WR_spell_18
    exact q_le (fun _ => H M' h1 h2 h3) (fun c => by omega)
  · rintro k i M' hi ⟨h1, h2, h3⟩ K
    have hn := tc_n p hp i (by omega) (by omega)
    unfold wl_WR_spell_18
    rw [tc_g p hp i (by omega) hi, b_id hn.1, nI_clamp (by omega), nI_1]
    refine q_le (fun c => by omega) (fun _ => ⟨hp, vp_in_nI (by omega) (by omega), vp_in_nI (by omega) (by omega), fun M2 e2 => q_x ?_⟩)
    have hfit : fits .byte (.int (nI (tc p i))) = true := by
      rw [← b_id hn.1, nar_b]; exact fit_b
    refine K M2 ⟨h1.trans (by rw [e2]; exact fr_upd rfl), by rw [e2]; exact rFb_upd h2 hfit, fun j hj => ?_⟩
    by_cases cj : j = i
    · subst cj; exact u_at e2
    · rw [u_ne e2]; exact h3 j (by omega)
def sNE (c j : Nat) : Prop := c = 23 ∨ c = 24 ∨ c = 25 ∨ c = 26 ∨ (c = 22 ∧ j = 1) ∨ (c = 19 ∧ j = 13) ∨ (c = 28 ∧ j = 10)
theorem w_number {post : gMem → Prop} (hb : rFb M) (h28 : ∀ p, p < 10 → M 28 p = nI (W p)) (hW : ∀ p, W p < 2 ^ 31) (H : ∀ M', fr sNE M M' → rFb M' → (∀ p, p < 11 → M' 25 p = nI (enW W p)) → M' 19 13 = nI (1 + cnt (thW W) 11) → (∀ p, p < 11 → thW W p = true → M' 26 p = nI (plL W p)) → M' 28 10 = nI (SL W 11).2 → (∀ k, k < (SL W 11).2 → M' 23 k = (SL W 11).1 k) → post M') : wp_WR_numberEntries post M := by
  unfold wp_WR_numberEntries wp_ST_restart_l
  refine ⟨vp_in_nI (n := 0) (by omega) (by omega), fun M1 e1 M2 e2 M3 e3 => ?_⟩
  have b1 : rFb M1 := by rw [e1]; exact rFb_upd hb (by decide)
  have f1 : fr sNE M M1 := by rw [e1]; exact fr_upd (Or.inl rfl)
  have f2 : fr sNE M1 M2 := by rw [e2]; exact fr_upd (by unfold sNE; omega)
  have f3 : fr sNE M2 M3 := by rw [e3]; exact fr_upd (by unfold sNE; omega)
  refine pk_loop (fun k p M' => wl_WR_numberEntries_14 post k (nI p) M') (fun p M' => fr sNE M M' ∧ rFb M' ∧ M' 28 10 = M 28 10 ∧ (∀ q, q < p → M' 25 q = nI (enW W q)) ∧ M' 19 13 = nI (1 + cnt (thW W) p) ∧ (∀ q, q < p → thW W q = true → M' 26 q = nI (plL W q)) ∧ M' 22 1 = nI (SL W p).2 ∧ ∀ k, k < (SL W p).2 → M' 23 k = (SL W p).1 k) 11 0 M3 (by omega) ⟨f1.trans (f2.trans f3), upB e3 (upB e2 b1), by rw [u_ne e3, u_ne e2, u_ne e1], fun q hq => by omega, u_at e3, fun q hq => by omega, by rw [u_ne e3]; exact u_at e2, fun k hk => ?_⟩ ?_ ?_
  · have hk' : k < 1 := hk
    have k0 : k = 0 := by omega
    subst k0
    rw [u_ne e3, u_ne e2]
    exact u_at e1
  · rintro k M' ⟨h1, h2, h3, h4, h5, h6, h7, h8⟩
    unfold wl_WR_numberEntries_14
    refine q_le (a := 11) (fun _ => ⟨vp_in_nI (n := 10) (by omega) (by omega), fun M4 e4 => ?_⟩) (fun c => by omega)
    rw [h7, show ((10 : Int32)).toNatClampNeg = 10 from rfl] at e4
    exact H M4 (h1.trans (by rw [e4]; exact fr_upd (by unfold sNE; omega))) (upB e4 h2) (fun p hp => by rw [u_ne e4]; exact h4 p hp) (by rw [u_ne e4]; exact h5) (fun p hp hq => by rw [u_ne e4]; exact h6 p hp hq) (u_at e4) (fun k hk => by rw [u_ne e4]; exact h8 k hk)
  · rintro k p M' hp ⟨h1, h2, h3, h4, h5, h6, h7, h8⟩ K
    have hl := SL_L (W := W) (show p ≤ 11 by omega)
    have hg := tc_l p hp
    have hc := cnt_le (g := thW W) p
    have ec : cnt (thW W) (p + 1) = cnt (thW W) p + if thW W p = true then 1 else 0 := rfl
    unfold wl_WR_numberEntries_14
    rw [nI_1, nI_clamp (by omega)]
    refine q_le (a := 11) (fun c => by omega) (fun _ => ⟨vp_in_nI (by omega) (by omega), fun M5 e5 => ?_⟩)
    have f5 : fr sNE M' M5 := by rw [e5]; exact fr_upd (by unfold sNE; omega)
    refine w_isThere (W := W) hp (fun c1 c2 => ?_) (hW p) ?_
    · rw [u_ne e5, h1 28 p (by unfold sNE; omega)]; exact h28 p (by omega)
    cases ht : thW W p
    · refine q_t rfl (q_x ?_)
      refine K M5 ⟨h1.trans f5, upB e5 h2, by rw [u_ne e5]; exact h3, fun q hq => ?_, by rw [u_ne e5, ec, ht, if_neg (by decide)]; exact h5, fun q hq hq2 => ?_, by rw [u_ne e5, SL_f ht]; exact h7, fun k hk => by rw [SL_f ht] at hk ⊢; rw [u_ne e5]; exact h8 k hk⟩
      · by_cases cq : q = p
        · subst cq; rw [u_at e5, enW, ht, if_neg (by decide)]; rfl
        · rw [u_ne e5]; exact h4 q (by omega)
      · by_cases cq : q = p
        · subst cq; rw [ht] at hq2; exact absurd hq2 (by decide)
        · rw [u_ne e5]; exact h6 q (by omega) hq2
    · refine q_f (by decide) ⟨vp_in_nI (by omega) (by omega), fun M6 e6 M7 e7 => ?_⟩
      rw [show M5 19 13 = nI (1 + cnt (thW W) p) by rw [u_ne e5]; exact h5] at e6
      rw [show M6 19 13 = nI (1 + cnt (thW W) p) by rw [u_ne e6, u_ne e5]; exact h5, nI_1] at e7
      have b7 := upB e7 (upB e6 (upB e5 h2))
      refine w_spell hp b7 (fun M8 f8 b8 w8 => ?_)
      refine w_place_l_24 (S := SL W p) (w := wfL p) (o := 0) b8 (by rw [f8 22 1 (by omega), u_ne e7, u_ne e6, u_ne e5]; exact h7) (fun k hk => by rw [f8 23 k (by omega), u_ne e7, u_ne e6, u_ne e5]; exact h8 k hk) (fun i hi => by rw [Nat.zero_add]; exact w8 i hi) (by omega) (by omega) (by omega) (fun M9 f9 b9 g9 t9 => ⟨vp_in_nI (by omega) (by omega), fun M10 e10 => q_x ?_⟩)
      have f6 : fr sNE M5 M6 := by rw [e6]; exact fr_upd (by unfold sNE; omega)
      have f7 : fr sNE M6 M7 := by rw [e7]; exact fr_upd (by unfold sNE; omega)
      have f8' : fr sNE M7 M8 := f8.mono fun c j q => Or.inr (Or.inl q)
      have f9' : fr sNE M8 M9 := f9.mono fun c j q => by
        rcases q with q | q
        · exact Or.inl q
        · exact Or.inr (Or.inr (Or.inr (Or.inr (Or.inl q))))
      have f10 : fr sNE M9 M10 := by rw [e10]; exact fr_upd (by unfold sNE; omega)
      have lo : ∀ c j, c ≠ 26 → c ≠ 23 → c ≠ 22 → c ≠ 24 → M10 c j = M7 c j := fun c j a1 a2 a3 a4 => by rw [u_ne e10, f9 c j (by unfold sl_24; omega), f8 c j (by omega)]
      refine K M10 ⟨h1.trans (f5.trans (f6.trans (f7.trans (f8'.trans (f9'.trans f10))))), upB e10 b9, by rw [lo 28 10 (by omega) (by omega) (by omega) (by omega), u_ne e7, u_ne e6, u_ne e5]; exact h3, fun q hq => ?_, ?_, fun q hq hq2 => ?_, by rw [SL_t ht, u_ne e10]; exact g9, fun k hk => by rw [SL_t ht] at hk ⊢; rw [u_ne e10]; exact t9 k hk⟩
      · rw [lo 25 q (by omega) (by omega) (by omega) (by omega), u_ne e7]
        by_cases cq : q = p
        · subst cq; rw [u_at e6, enW, ht, if_pos rfl]
        · rw [u_ne e6, u_ne e5]; exact h4 q (by omega)
      · rw [lo 19 13 (by omega) (by omega) (by omega) (by omega), u_at e7, ec, ht, if_pos rfl]; rfl
      · by_cases cq : q = p
        · subst cq; exact u_at e10
        · rw [u_ne e10, f9 26 q (by unfold sl_24; omega), f8 26 q (by omega), u_ne e7, u_ne e6, u_ne e5]; exact h6 q (by omega) hq2
/-! the reference -/
theorem m_take {post : gMem → Prop} {p : Nat} (hp : p < 11) (R : rTi M) (H : ∀ M', fr (fun c j => c = 69 ∨ (c = 41 ∧ j = 32)) M M' → M' 41 32 = nI (gSl p) → (∀ i, i < gSl p → M' 69 i = wfL p i) → post M') : wp_MO_takeTitle post (nI p) M := by
  have hl := tc_l p hp
  unfold wp_MO_takeTitle
  intro M1 e1
  rw [nI_clamp (by omega), show M1 64 p = nI (pTa.getD p 0) by rw [u_ne e1]; exact R.2 p hp]
  refine ⟨vp_in_nI (by omega) (by omega), q_x ?_⟩
  have f1 : fr (fun c j => c = 69 ∨ (c = 41 ∧ j = 32)) M M1 := by rw [e1]; exact fr_upd (Or.inr ⟨rfl, rfl⟩)
  refine pk_loop (fun k i M' => wl_MO_takeTitle_12 post k (nI (pTa.getD p 0 + i)) M') (fun i M' => fr (fun c j => c = 69 ∨ (c = 41 ∧ j = 32)) M M' ∧ M' 41 32 = nI i ∧ ∀ j, j < i → M' 69 j = wfL p j) (gSl p) 0 M1 (by omega) ⟨f1, u_at e1, fun j hj => by omega⟩ ?_ ?_
  · rintro k M' ⟨h1, h2, h3⟩
    have hm := tc_m p hp (gSl p) (by omega) (by omega)
    have hn := tc_n p hp (gSl p) (by omega) (by omega)
    unfold wl_MO_takeTitle_12
    rw [nI_clamp (by omega), show M' 63 (pTa.getD p 0 + gSl p) = nI (tc p (gSl p)) by rw [h1 63 _ (by omega), R.1 _ hm.2]; exact hm.1, hn.2.mpr rfl]
    exact ⟨vp_in_nI (by omega) (by omega), q_t rfl (H M' h1 h2 h3)⟩
  · rintro k i M' hi ⟨h1, h2, h3⟩ K
    have hm := tc_m p hp i (by omega) (by omega)
    have hn := tc_n p hp i (by omega) (by omega)
    unfold wl_MO_takeTitle_12
    rw [nI_clamp (by omega), h2, nI_clamp (by omega), show M' 63 (pTa.getD p 0 + i) = nI (tc p i) by rw [h1 63 _ (by omega), R.1 _ hm.2]; exact hm.1, show nI (pTa.getD p 0 + i) + (1 : Int32) = nI (pTa.getD p 0 + (i + 1)) from nI_1 _]
    refine ⟨vp_in_nI (by omega) (by omega), q_eq (b := 0) (fun c => absurd (hn.2.mp c) (by omega)) (fun _ => ⟨vp_in_nI (by omega) (by omega), vp_in_nI (by omega) (by omega), fun M3 e3 M4 e4 => q_x ?_⟩)⟩
    rw [show M3 41 32 = nI i by rw [u_ne e3]; exact h2, nI_1] at e4
    refine K M4 ⟨h1.trans ((show fr (fun c j => c = 69 ∨ (c = 41 ∧ j = 32)) M' M3 by rw [e3]; exact fr_upd (Or.inl rfl)).trans (by rw [e4]; exact fr_upd (Or.inr ⟨rfl, rfl⟩))), u_at e4, fun j hj => ?_⟩
    by_cases cj : j = i
    · subst cj; rw [u_ne e4]; exact u_at e3
    · rw [u_ne e4, u_ne e3]; exact h3 j (by omega)
def sTl (c j : Nat) : Prop := c = 68 ∨ c = 69 ∨ (c = 72 ∧ j < 11) ∨ (c = 41 ∧ (j = 30 ∨ j = 32))
theorem m_labels {post : Int32 → gMem → Prop} (R : rTi M) (h67 : ∀ p, p < 11 → M 67 p = nI (enW W p)) (H : ∀ M', fr sTl M M' → (∀ p, p < 11 → thW W p = true → M' 72 p = nI (plL W p)) → stM (SL W 11) M' → post (nI (SL W 11).2) M') : wp_MO_sizeOfTitles post M := by
  unfold wp_MO_sizeOfTitles wp_MO_begin
  refine ⟨vp_in_nI (n := 0) (by omega) (by omega), fun M1 e1 => ⟨vp_in_nI (n := 0) (by omega) (by omega), fun M2 e2 M3 e3 => ?_⟩⟩
  have f1 : fr sTl M M1 := by rw [e1]; exact fr_upd (Or.inr (Or.inl rfl))
  have f2 : fr sTl M1 M2 := by rw [e2]; exact fr_upd (Or.inl rfl)
  have f3 : fr sTl M2 M3 := by rw [e3]; exact fr_upd (Or.inr (Or.inr (Or.inr ⟨rfl, Or.inl rfl⟩)))
  have s3 : stM (SL W 0) M3 := ⟨u_at e3, fun k hk => by
    have hk' : k < 1 := hk
    have k0 : k = 0 := by omega
    subst k0
    rw [u_ne e3]
    exact u_at e2⟩
  refine pk_loop (fun k p M' => wl_MO_sizeOfTitles_6 post k (nI p) M') (fun p M' => fr sTl M M' ∧ (∀ q, q < p → thW W q = true → M' 72 q = nI (plL W q)) ∧ stM (SL W p) M') 11 0 M3 (by omega) ⟨f1.trans (f2.trans f3), fun q hq => by omega, s3⟩ ?_ ?_
  · rintro k M' ⟨h1, h2, h3⟩
    unfold wl_MO_sizeOfTitles_6
    rw [h3.1]
    exact q_le (a := 11) (fun _ => H M' h1 h2 h3) (fun c => by omega)
  · rintro k p M' hp ⟨h1, h2, h3⟩ K
    have hl := SL_L (W := W) (show p ≤ 11 by omega)
    have hg := tc_l p hp
    have he := en_le (W := W) (p := p)
    have R' : rTi M' := rTi_fr h1 (by unfold sTl; omega) (by unfold sTl; omega) R
    unfold wl_MO_sizeOfTitles_6
    rw [nI_1, nI_clamp (by omega), h1 67 p (by unfold sTl; omega), h67 p hp]
    refine q_le (a := 11) (fun c => by omega) (fun _ => ⟨vp_in_nI (by omega) (by omega), q_ne (b := 0) (fun c => ?_) (fun c => q_x ?_)⟩)
    · have ht : thW W p = true := by
        cases e : thW W p
        · rw [enW, e, if_neg (by decide)] at c; exact absurd rfl c
        · rfl
      refine m_take hp R' (fun M4 f4 e4 w4 => ?_)
      have n0 := tc_n p hp 0 (by omega) (by omega)
      refine m_string (S := SL W p) (w := wfL p) (m := gSl p) (by rw [f4 41 30 (by omega)]; exact h3.1) e4 (fun q hq => by rw [f4 68 q (by omega)]; exact h3.2 q hq) w4 (by omega) (by omega) (by omega) hl.1 sts_0 ?_ (fun M5 f5 g5 t5 => ⟨vp_in_nI (by omega) (by omega), fun M6 e6 => q_x ?_⟩)
      · intro w
        have := (nI_eq (show tc p 0 < 2 ^ 31 by omega) (show 0 < 2 ^ 31 by omega)).mp w
        have := n0.2.mp this
        omega
      · have f4' : fr sTl M' M4 := f4.mono fun c j q => by
          rcases q with q | q
          · exact Or.inr (Or.inl q)
          · exact Or.inr (Or.inr (Or.inr ⟨q.1, Or.inr q.2⟩))
        have f5' : fr sTl M4 M5 := f5.mono fun c j q => by
          rcases q with q | q
          · exact Or.inl q
          · exact Or.inr (Or.inr (Or.inr ⟨q.1, Or.inl q.2⟩))
        have f6 : fr sTl M5 M6 := by rw [e6]; exact fr_upd (Or.inr (Or.inr (Or.inl ⟨rfl, hp⟩)))
        refine K M6 ⟨h1.trans (f4'.trans (f5'.trans f6)), fun q hq hq2 => ?_, by rw [SL_t ht]; exact ⟨by rw [u_ne e6]; exact g5, fun k hk => by rw [u_ne e6]; exact t5 k hk⟩⟩
        by_cases cq : q = p
        · subst cq; exact u_at e6
        · rw [u_ne e6, f5 72 q (by unfold s68; omega), f4 72 q (by omega)]; exact h2 q (by omega) hq2
    · have ht : thW W p = false := by
        cases e : thW W p
        · rfl
        · rw [enW, e, if_pos rfl] at c; omega
      refine K M' ⟨h1, fun q hq hq2 => ?_, by rw [SL_f ht]; exact h3⟩
      by_cases cq : q = p
      · subst cq; rw [ht] at hq2; exact absurd hq2 (by decide)
      · exact h2 q (by omega) hq2
end
