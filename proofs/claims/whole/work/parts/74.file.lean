/-! the file's bytes: byteAt, cut, spoil, feed -/
theorem w_has {post : Bool → gMem → Prop} {a : Int32} {M : gMem} (h1 : ¬ a < 0 → a < M 17 1 → post true M) (h2 : a < 0 ∨ ¬ a < M 17 1 → post false M) : wp_FB_has post a M :=
  ⟨fun c => h2 (Or.inl c), fun c => ⟨fun d => h2 (Or.inr (by simp only [ti_lt, ti_le] at d ⊢; omega)), fun d => h1 c (by simp only [ti_lt, ti_le] at d ⊢; omega)⟩⟩
theorem w_u1 {post : Int32 → gMem → Prop} {k n : Nat} {M : gMem} (hn : n ≤ 8192) (hl : M 17 1 = nI n) (hk : k < n) (h : post (M 18 k &&& 255) M) : wp_FB_u1 post (nI k) M := by
  unfold wp_FB_u1
  rw [hl]
  refine ⟨fun d => absurd d (nI_pos (by omega)), fun _ => ⟨fun _ => ⟨vp_in_nI (by omega) (by omega), ?_⟩, fun d => absurd (nI_lt hk (by omega)) d⟩⟩
  rw [nI_clamp (by omega)]
  exact h
theorem c_byteAt {a : Int32} {M : gMem} (h : pInv M) : wp_OF_byteAt (fun r M1 => wp_MO_byteAt (fun r' M2 => r = r' ∧ pInv M2) a M1) a M := by
  obtain ⟨n, hn, h1, h2, h3⟩ := h.2.2.1
  have hbad : (a < 0 ∨ ¬ a < M 17 1) → wp_MO_byteAt (fun r' M2 => (-1 : Int32) = r' ∧ pInv M2) a M := by
    intro hc
    unfold wp_MO_byteAt
    rw [h2]
    rw [h1] at hc
    refine ⟨fun _ => ⟨rfl, h⟩, fun c => ⟨fun _ => ⟨rfl, h⟩, fun d => ?_⟩⟩
    exfalso
    simp only [ti_lt, ti_le] at *
    omega
  refine w_has (fun c d => ⟨fun q => absurd q (by decide), fun _ => ?_⟩) (fun c => ⟨fun _ => hbad c, fun q => absurd rfl q⟩)
  rw [h1] at d
  simp only [ti_lt, ti_nI (show n < 2 ^ 31 by omega), Int32.reduceToInt] at c d
  obtain ⟨k, hk, rfl⟩ := ti_nat (x := a) (by omega)
  rw [ti_nI hk] at d
  refine w_u1 hn h1 (by omega) ?_
  unfold wp_MO_byteAt
  try dsimp only
  rw [h2]
  refine ⟨fun q => absurd q (nI_pos hk), fun _ => ⟨fun q => absurd q (nI_ge (by omega) (by omega)), fun _ => ⟨vp_in_nI (by omega) (by omega), ?_, h⟩⟩⟩
  rw [nI_clamp hk]
  exact h3 k (by omega)
theorem c_cut {a : Int32} {M : gMem} (h : pInv M) : wp_OF_cut (fun r M1 => wp_MO_cut (fun r' M2 => r = r' ∧ pInv M2) a M1) a M := by
  obtain ⟨n, hn, h1, h2, h3⟩ := h.2.2.1
  unfold wp_OF_cut wp_MO_cut
  rw [h1]
  refine ⟨fun c => ⟨fun _ => ⟨rfl, h⟩, fun d => absurd c d⟩, fun c => ⟨fun c2 M1 e => ?_, fun c2 => ?_⟩⟩
  · have g : M1 41 22 = nI n := by rw [e]; exact h2
    try dsimp only
    rw [g]
    refine ⟨fun d => absurd d c, fun _ => ⟨fun _ M2 e2 => ⟨rfl, ?_⟩, fun d => absurd c2 d⟩⟩
    have f2 : fr sFi M M2 := (show fr sFi M M1 from e ▸ fr_upd (Or.inl ⟨rfl, rfl⟩)).trans (e2 ▸ fr_upd (Or.inr (Or.inr (Or.inl ⟨rfl, rfl⟩))))
    simp only [ti_lt, ti_le, ti_nI (show n < 2 ^ 31 by omega), Int32.reduceToInt] at c c2
    obtain ⟨k, hk, rfl⟩ := ti_nat (x := a) (by omega)
    rw [ti_nI hk] at c2
    refine inv_file f2 h ⟨k, by omega, by rw [e2, e]; rfl, by rw [e2]; rfl, fun j hj => ?_⟩ (by rw [e2, e]; exact rFb_up (rFb_up h.2.2.2.2.2.1 (by decide)) (by decide))
    have q1 : M2 18 j = M 18 j := by rw [e2, e]; rfl
    have q2 : M2 62 j = M 62 j := by rw [e2, e]; rfl
    rw [q1, q2]
    exact h3 j (by omega)
  · dsimp only
    rw [h2]
    exact ⟨fun d => absurd d c, fun _ => ⟨fun d => absurd d c2, fun _ => ⟨rfl, h⟩⟩⟩
theorem and255_b (x : Int32) : (x.toInt8.toInt32) &&& 255 = x &&& 255 := bp_b x
theorem c_spoil {a b : Int32} {M : gMem} (h : pInv M) : wp_OF_spoil (fun r M1 => wp_MO_spoil (fun r' M2 => r = r' ∧ pInv M2) a b M1) a b M := by
  obtain ⟨n, hn, h1, h2, h3⟩ := h.2.2.1
  refine w_has (fun c d => ⟨fun _ => ?_, fun q => absurd q (by decide)⟩) (fun hc => ⟨fun q => absurd rfl q, fun _ => ?_⟩)
  · rw [h1] at d
    simp only [ti_lt, ti_nI (show n < 2 ^ 31 by omega), Int32.reduceToInt] at c d
    obtain ⟨k, hk, rfl⟩ := ti_nat (x := a) (by omega)
    rw [ti_nI hk] at d
    refine w_u1 hn h1 (by omega) ?_
    unfold wp_FB_put1 wp_MO_spoil
    try dsimp only
    rw [h1]
    refine ⟨fun q => absurd q (nI_pos hk), fun _ => ⟨fun q => absurd q (nI_ge (by omega) (by omega)), fun _ => ⟨vp_in_nI (by omega) (by omega), fun M1 e => ?_⟩⟩⟩
    have g : M1 41 22 = nI n := by rw [e]; exact h2
    try dsimp only
    rw [g]
    refine ⟨fun q => absurd q (nI_pos hk), fun _ => ⟨fun _ => ⟨vp_in_nI (by omega) (by omega), fun x ex => ⟨vp_in_nI (by omega) (by omega), fun M2 e2 => ?_⟩⟩, fun q => absurd (nI_lt (by omega) (by omega)) q⟩⟩
    rw [nI_clamp hk] at e ex e2
    have g2 : M1 62 k = M 62 k := by rw [e]; rfl
    refine ⟨by rw [ex, g2]; exact h3 k (by omega), ?_⟩
    have f2 : fr sFi M M2 := (show fr sFi M M1 from e ▸ fr_upd (Or.inr (Or.inl rfl))).trans (e2 ▸ fr_upd (Or.inr (Or.inr (Or.inr rfl))))
    refine inv_file f2 h ⟨n, hn, by rw [e2, e]; exact h1, by rw [e2, e]; exact h2, fun j hj => ?_⟩ (by rw [e2]; refine rFb_up ?_ (by decide); rw [e]; exact rFb_upd h.2.2.2.2.2.1 (by rw [nar_b]; exact fit_b))
    by_cases hj2 : j = k
    · subst hj2
      have q1 : M2 18 j = (b.toInt8.toInt32).toInt8.toInt32 := by rw [e2, e]; simp [va_up, upd, nar_b]
      have q2 : M2 62 j = b &&& 255 := by rw [e2]; simp [va_up, upd]
      rw [q1, q2, and255_b, and255_b]
    · have q1 : M2 18 j = M 18 j := by rw [e2, e]; simp [va_up, upd, hj2]
      have q2 : M2 62 j = M 62 j := by rw [e2, e]; simp [va_up, upd, hj2]
      rw [q1, q2]
      exact h3 j hj
  · unfold wp_MO_spoil
    try dsimp only
    rw [h2]
    rw [h1] at hc
    refine ⟨fun _ => ⟨rfl, h⟩, fun c => ⟨fun d => ?_, fun _ => ⟨rfl, h⟩⟩⟩
    rcases hc with hc | hc
    · exact absurd hc c
    · exact absurd d hc
