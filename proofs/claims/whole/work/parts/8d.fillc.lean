/-! filling the read object: the class -/
section
variable {n T E N : Nat} {b : Nat → Fin 256} {M : gMem} {q B W G : Nat → Nat}
theorem u_at {M1 : gMem} {c i : Nat} {x : Int32} (e : M1 = va_up M c (upd (M c) i x)) : M1 c i = x := by
  rw [e, up_same]; exact if_pos rfl
theorem u_ne {M1 : gMem} {c i : Nat} {x : Int32} (e : M1 = va_up M c (upd (M c) i x)) {c' j : Nat} (h : c' ≠ c ∨ j ≠ i := by first | exact Or.inl (by decide) | omega) : M1 c' j = M c' j := by
  rw [e]
  by_cases h1 : c' = c
  · subst h1
    rw [up_same]
    exact if_neg (by omega)
  · rw [up_ne h1]
theorem y_at {M1 : gMem} {c s sp dp m : Nat} (e : M1 = va_up M c (va_cpy (M s) (M c) sp dp m)) {k : Nat} (h : k < m) : M1 c (dp + k) = M s (sp + k) := by
  rw [e, up_same]
  unfold va_cpy
  rw [if_pos (by omega), show sp + (dp + k - dp) = sp + k by omega]
theorem y_ne {M1 : gMem} {c s sp dp m : Nat} (e : M1 = va_up M c (va_cpy (M s) (M c) sp dp m)) {c' j : Nat} (h : c' ≠ c ∨ j < dp ∨ dp + m ≤ j := by first | exact Or.inl (by decide) | omega) : M1 c' j = M c' j := by
  rw [e]
  by_cases h1 : c' = c
  · subst h1
    rw [up_same]
    unfold va_cpy
    rw [if_neg (by omega)]
  · rw [up_ne h1]
def sF (c j : Nat) : Prop := (c = 9 ∧ (j = 4 ∨ j = 7 ∨ j = 9)) ∨ (10 ≤ c ∧ c ≤ 16)
theorem kX_F {M' : gMem} (hf : fr sF M M') (X : kX n b T E N q B W G M) : kX n b T E N q B W G M' := by
  obtain ⟨x1, x2, x3, x4, x5⟩ := X
  refine ⟨kS_fr hf (by unfold sF; omega) (by unfold sF; omega) (by unfold sF; omega) (by unfold sF; omega) (by unfold sF; omega) x1, ⟨fun p hp => ?_, fun k h1 h2 => ?_⟩, x3, x4, fun p hp => ?_⟩
  · rw [hf 35 p (by unfold sF; omega)]; exact x2.1 p hp
  · rw [hf 34 k (by unfold sF; omega)]; exact x2.2 k h1 h2
  · rw [hf 36 p (by unfold sF; omega), hf 37 p (by unfold sF; omega)]; exact x5 p hp
theorem upF {M1 : gMem} {c i : Nat} {x : Int32} (e : M1 = va_up M c (upd (M c) i x)) (h : sF c i) : fr sF M M1 := by
  rw [e]; exact fr_upd h
theorem upB {M1 : gMem} {c : Nat} {f : Nat → Int32} (e : M1 = va_up M c f) (h : rFb M) (hc : c ∉ [2, 7, 10, 15, 18, 21, 23, 24, 40] := by decide) : rFb M1 := by
  rw [e]; exact rFb_up h hc
theorem k_f11 {post : gMem → Prop} {v : Int32} (hb : rFb M) (H : ∀ M', fr (fun c _ => c = 11) M M' → rFb M' → post M') : wp_AR_fill1_11 post v M := by
  refine pk_loop (fun k i M' => wl_AR_fill1_11_5 post k v (nI i) (4 : Int32) M') (fun i M' => fr (fun c _ => c = 11) M M' ∧ rFb M') 4 0 M (by omega) ⟨fr.refl, hb⟩ ?_ ?_
  · rintro k M' ⟨h1, h2⟩
    unfold wl_AR_fill1_11_5
    exact q_le (a := 4) (fun _ => H M' h1 h2) (fun c => by omega)
  · rintro k i M' hi ⟨h1, h2⟩ K
    unfold wl_AR_fill1_11_5
    refine q_le (a := 4) (fun c => by omega) (fun _ => ⟨vp_in_nI (by omega) (by omega), fun M1 e1 => q_x ?_⟩)
    rw [nI_1]
    exact K M1 ⟨h1.trans (e1 ▸ fr_upd rfl), upB e1 h2⟩
theorem k_f12 {post : gMem → Prop} {v : Int32} (hb : rFb M) (H : ∀ M', fr (fun c _ => c = 12) M M' → rFb M' → post M') : wp_AR_fill1_12 post v M := by
  refine pk_loop (fun k i M' => wl_AR_fill1_12_5 post k v (nI i) (4 : Int32) M') (fun i M' => fr (fun c _ => c = 12) M M' ∧ rFb M') 4 0 M (by omega) ⟨fr.refl, hb⟩ ?_ ?_
  · rintro k M' ⟨h1, h2⟩
    unfold wl_AR_fill1_12_5
    exact q_le (a := 4) (fun _ => H M' h1 h2) (fun c => by omega)
  · rintro k i M' hi ⟨h1, h2⟩ K
    unfold wl_AR_fill1_12_5
    refine q_le (a := 4) (fun c => by omega) (fun _ => ⟨vp_in_nI (by omega) (by omega), fun M1 e1 => q_x ?_⟩)
    rw [nI_1]
    exact K M1 ⟨h1.trans (e1 ▸ fr_upd rfl), upB e1 h2⟩
theorem k_reset {post : gMem → Prop} (hb : rFb M) (H : ∀ M', fr sF M M' → rFb M' → M' 9 4 = nI 0 → M' 9 7 = nI 0 → M' 9 9 = nI 0 → post M') : wp_CT_reset_s post M := by
  unfold wp_CT_reset_s
  refine k_f11 hb (fun M2 f2 b2 => k_f12 b2 (fun M4 f4 b4 M5 e5 M6 e6 M7 e7 => ?_))
  have g2 : fr sF M M2 := f2.mono (fun c j h => Or.inr (by omega))
  have g4 : fr sF M2 M4 := f4.mono (fun c j h => Or.inr (by omega))
  refine H M7 ((g2.trans g4).trans ((upF e5 (Or.inl ⟨rfl, Or.inl rfl⟩)).trans ((upF e6 (Or.inl ⟨rfl, Or.inr (Or.inl rfl)⟩)).trans (upF e7 (Or.inl ⟨rfl, Or.inr (Or.inr rfl)⟩))))) (upB e7 (upB e6 (upB e5 b4))) ?_ ?_ (u_at e7)
  · rw [u_ne e7, u_ne e6]; exact u_at e5
  · rw [u_ne e7]; exact u_at e6
/-- sizes and alignments -/
def zC (W G : Nat → Nat) (m : Nat) (M : gMem) : Prop := ∀ s, s < m → M 11 s = nI (W s) ∧ M 12 s = nI (G s)
def sZ (c _j : Nat) : Prop := c = 11 ∨ c = 12
theorem sZ_F {c j : Nat} (h : sZ c j) : sF c j := Or.inr (by unfold sZ at h; omega)
theorem k_fl6 {post : gMem → Prop} (X : kX n b T E N q B W G M) (h38 : ∀ p, p < 4 → M 38 p = nI (G p)) (hb : rFb M) (H : ∀ M', fr sZ M M' → rFb M' → zC W G 4 M' → ∃ n9 : Nat, wl_RE_fill_9_49 post n9 (0 : Int32) M') : ∃ n9, wl_RE_fill_9_6 post n9 (0 : Int32) M := by
  refine pk_loop (fun k i M' => wl_RE_fill_9_6 post k (nI i) M') (fun i M' => fr sZ M M' ∧ rFb M' ∧ zC W G i M') 4 0 M (by omega) ⟨fr.refl, hb, fun s hs => by omega⟩ ?_ ?_
  · rintro k M' ⟨h1, h2, h3⟩
    unfold wl_RE_fill_9_6
    exact q_lt (a := 3) (fun _ => H M' h1 h2 h3) (fun c => by omega)
  · rintro k i M' hi ⟨h1, h2, h3⟩ K
    unfold wl_RE_fill_9_6
    have v1 : vp_in (nI i) 11 := vp_in_nI (by omega) (by omega)
    have v2 : vp_in (nI i) 4 := vp_in_nI (by omega) (by omega)
    have X1 := kX_F (h1.mono fun c j h => sZ_F h) X
    refine q_lt (a := 3) (fun c => by omega) (fun _ => ⟨v1, v2, fun M1 e1 => ⟨v1, v2, fun M2 e2 => q_x ?_⟩⟩)
    rw [nI_clamp (by omega)] at e1 e2
    rw [(X1.2.2.2.2 i (by omega)).2] at e1
    rw [show M1 38 i = nI (G i) by rw [u_ne e1, h1 38 i (by unfold sZ; omega)]; exact h38 i hi] at e2
    rw [nI_1]
    refine K M2 ⟨h1.trans ((e1 ▸ fr_upd (Or.inl rfl)).trans (e2 ▸ fr_upd (Or.inr rfl))), upB e2 (upB e1 h2), fun s hs => ?_⟩
    by_cases c : s = i
    · subst c
      refine ⟨?_, u_at e2⟩
      rw [u_ne e2]; exact u_at e1
    · have := h3 s (by omega)
      rw [u_ne e2, u_ne e1, u_ne e2, u_ne e1]
      exact this
/-- bytes -/
def yC (B W : Nat → Nat) (m : Nat) (M : gMem) : Prop := ∀ s, s < m → ∀ k, k < W s → M 10 (2048 * s + k) = M 18 (B s + k)
theorem k_fl49 {post : gMem → Prop} (X : kX n b T E N q B W G M) (hb : rFb M) (H : ∀ M', fr (fun c _ => c = 10) M M' → rFb M' → yC B W 3 M' → ∃ n9 : Nat, wl_RE_fill_9_119 post n9 (nI (B 4 + W 4)) (nI (B 4)) M') : ∃ n9, wl_RE_fill_9_49 post n9 (0 : Int32) M := by
  have h8 := X.1.1.1
  refine pk_loop (fun k i M' => wl_RE_fill_9_49 post k (nI i) M') (fun i M' => fr (fun c _ => c = 10) M M' ∧ rFb M' ∧ yC B W i M') 3 0 M (by omega) ⟨fr.refl, hb, fun s hs => by omega⟩ ?_ ?_
  · rintro k M' ⟨h1, h2, h3⟩
    have X1 := kX_F (h1.mono fun c j h => Or.inr (by omega)) X
    unfold wl_RE_fill_9_49
    refine q_lt (a := 2) (fun _ => ⟨in_4, q_x ⟨in_4, q_x ?_⟩⟩) (fun c => by omega)
    rw [cl_4, (X1.2.2.2.2 4 (by omega)).1, (X1.2.2.2.2 4 (by omega)).2, nI_add]
    exact H M' h1 h2 h3
  · rintro k i M' hi ⟨h1, h2, h3⟩ K
    have X1 := kX_F (h1.mono fun c j h => Or.inr (by omega)) X
    unfold wl_RE_fill_9_49
    have v1 : vp_in (nI i) 11 := vp_in_nI (by omega) (by omega)
    have hw := X.2.2.1.2.2.2.1 i (by omega)
    have hB := X.2.2.1.1 i (by omega) (by omega)
    have l1 : B i + W i ≤ 8192 := by omega
    have l2 : i * 2048 + W i ≤ 6144 := by omega
    refine q_lt (a := 2) (fun c => by omega) (fun _ => ⟨v1, v1, ?_⟩)
    rw [nI_clamp (by omega), (X1.2.2.2.2 i (by omega)).1, (X1.2.2.2.2 i (by omega)).2, show nI i * (2048 : Int32) = nI (i * 2048) from pk_mul i 2048]
    unfold wp_FB_copyOut_10
    have go : ∀ M1, fr (fun c _ => c = 10) M' M1 → rFb M1 → yC B W (i + 1) M1 → ∀ x20 : Int32, x20 = nI i + (1 : Int32) → wl_RE_fill_9_49 post k x20 M1 := by
      intro M1 f1 b1 y1 x20 e20
      rw [e20, nI_1]
      exact K M1 ⟨h1.trans f1, b1, y1⟩
    refine q_le (b := 0) (fun c => go M' fr.refl h2 (fun s hs kk hk => ?_)) (fun c => ?_)
    · by_cases d : s = i
      · subst d; omega
      · exact h3 s (by omega) kk hk
    · rw [X1.1.1.2.1, show (6144 : Int32) - nI (W i) = nI (6144 - W i) from pk_sub (a := 6144) (by omega), pk_sub (by omega)]
      refine q_n0 (q_lt (fun c2 => by omega) (fun c2 => q_n0 (q_lt (fun c3 => by omega) (fun c3 => ⟨nI_pos (by omega), nI_pos (by omega), nI_pos (by omega), ?_⟩))))
      rw [nI_clamp (by omega), nI_clamp (by omega), nI_clamp (by omega)]
      have hfit : ∀ j, fits .byte (.int (M' 18 j)) = true := h2 18 (by decide)
      refine ⟨l1, l2, fun j _ => hfit _, fun M1 e1 => go M1 (e1 ▸ fr_cpy (fun _ _ _ => rfl)) (e1 ▸ rFb_cpy h2 (fun j _ => hfit _)) (fun s hs kk hk => ?_)⟩
      by_cases d : s = i
      · subst d
        rw [show 2048 * s + kk = s * 2048 + kk by omega, y_at e1 hk, y_ne e1]
      · have := X.2.2.1.2.2.2.1 s (by omega)
        rw [y_ne e1, y_ne e1]
        exact h3 s (by omega) kk hk
/-- starts -/
def tC (b : Nat → Fin 256) (B : Nat → Nat) (m : Nat) (M : gMem) : Prop := M 9 4 = nI m ∧ ∀ k, k < m → M 13 k = nI (sv b B k)
def sT1 (c j : Nat) : Prop := (c = 9 ∧ j = 4) ∨ c = 13
theorem k_fl119 {post : gMem → Prop} (X : kX n b T E N q B W G M) (hb : rFb M) (h0 : M 9 4 = nI 0) (H : ∀ M', fr sT1 M M' → rFb M' → tC b B (W 4 / 2) M' → ∃ n9 : Nat, wl_RE_fill_9_154 post n9 (nI (W 8 / 16)) (1 : Int32) M') : ∃ n9, wl_RE_fill_9_119 post n9 (nI (B 4 + W 4)) (nI (B 4)) M := by
  have h8 := X.1.1.1
  have hw4 := X.2.2.1.2.2.2.2.2.1
  have hw8 := X.2.2.1.2.1
  have hB := X.2.2.1.1 4 (by omega) (by omega)
  refine pk_loop (fun k i M' => wl_RE_fill_9_119 post k (nI (B 4 + W 4)) (nI (B 4 + 2 * i)) M') (fun i M' => fr sT1 M M' ∧ rFb M' ∧ tC b B i M') (W 4 / 2) 0 M (by omega) ⟨fr.refl, hb, h0, fun s hs => by omega⟩ ?_ ?_
  · rintro k M' ⟨h1, h2, h3⟩
    have X1 := kX_F (h1.mono fun c j h => (by unfold sT1 at h; unfold sF; omega)) X
    unfold wl_RE_fill_9_119
    refine q_le (fun _ => ⟨in_8, ?_⟩) (fun c => by omega)
    rw [cl_8, (X1.2.2.2.2 8 (by omega)).2, show nI (W 8) / (16 : Int32) = nI (W 8 / 16) from pk_div (d := 16) (by omega) (by omega) (by omega)]
    exact H M' h1 h2 h3
  · rintro k i M' hi ⟨h1, h2, h3⟩ K
    have X1 := kX_F (h1.mono fun c j h => (by unfold sT1 at h; unfold sF; omega)) X
    unfold wl_RE_fill_9_119
    refine q_le (fun c => by omega) (fun _ => k_u2 X1.1.1 ?_)
    try dsimp only
    unfold wp_CT_addStart_s
    rw [h3.1]
    refine q_n0 (q_lt (b := 1024) (fun c => ⟨vp_in_nI (by omega) (by omega), fun M1 e1 M2 e2 => q_x ?_⟩) (fun c => by omega))
    rw [nI_clamp (by omega)] at e1
    rw [show M1 9 4 = nI i by rw [u_ne e1]; exact h3.1, nI_1] at e2
    rw [i2, show B 4 + 2 * i + 2 = B 4 + 2 * (i + 1) by omega]
    refine K M2 ⟨h1.trans ((e1 ▸ fr_upd (Or.inr rfl)).trans (e2 ▸ fr_upd (Or.inl ⟨rfl, rfl⟩))), upB e2 (upB e1 h2), u_at e2, fun s hs => ?_⟩
    by_cases c : s = i
    · subst c
      rw [u_ne e2, u_at e1]
      rfl
    · rw [u_ne e2, u_ne e1]
      exact h3.2 s (by omega)
end
