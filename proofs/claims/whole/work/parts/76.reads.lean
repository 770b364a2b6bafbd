/-! the read object's questions -/
theorem ix_add {a k : Nat} : nI a + nI k = nI (a + k) := nI_add a k
theorem c_section {a b : Int32} {M : gMem} (h : pInv M) : wp_OF_section (fun r M1 => wp_MO_section (fun r' M2 => r = r' ∧ pInv M2) a b M1) a b M := by
  unfold wp_OF_section wp_MO_section
  refine ⟨fun c => ⟨fun _ => ⟨rfl, h⟩, fun d => absurd c d⟩, fun c => ⟨fun c2 => ?_, fun c2 => ⟨fun d => absurd d c, fun _ => ⟨fun d => absurd d c2, fun _ => ⟨rfl, h⟩⟩⟩⟩⟩
  simp only [ti_lt, ti_le, Int32.reduceToInt] at c c2
  obtain ⟨s, hs, rfl⟩ := ti_nat (x := a) (by omega)
  rw [ti_nI hs] at c c2
  have hz := h.2.1.1 s (by omega)
  have e4 : (4 : Int32) + nI s = nI (4 + s) := nI_add 4 s
  have hle : nI s ≤ (3 : Int32) := by rw [ti_le, ti_nI hs]; simp only [Int32.reduceToInt]; omega
  have hp : ¬ nI s < 0 := nI_pos hs
  rw [e4, nI_clamp hs, nI_clamp (by omega)]
  have v1 : vp_in (nI s) 4 := vp_in_nI (by omega) (by omega)
  have v2 : vp_in (nI (4 + s)) 8 := vp_in_nI (by omega) (by omega)
  refine ⟨fun c3 => ⟨v1, fun d => absurd d hp, fun _ => ⟨fun _ => ⟨fun d => absurd c3 d, fun _ => ⟨v2, hz.1, h⟩⟩, fun d => absurd hle d⟩⟩, fun c3 => ⟨fun c4 => ⟨v1, fun d => absurd d hp, fun _ => ⟨fun _ => ⟨fun _ => ⟨fun d => absurd c4 d, fun _ => ⟨v2, hz.2.2.2.1, h⟩⟩, fun d => absurd d c3⟩, fun d => absurd hle d⟩⟩, fun c4 => ⟨fun d => absurd d hp, fun _ => ⟨fun _ => ⟨fun _ => ⟨fun _ => ⟨rfl, h⟩, fun d => absurd d c4⟩, fun d => absurd d c3⟩, fun d => absurd hle d⟩⟩⟩⟩
theorem c_at {a b : Int32} {M : gMem} (h : pInv M) : wp_OF_at (fun r M1 => wp_MO_at (fun r' M2 => r = r' ∧ pInv M2) a b M1) a b M := by
  unfold wp_OF_at wp_CT_byteOf_s wp_MO_at
  refine ⟨fun c => ⟨fun _ => ⟨rfl, h⟩, fun d => absurd c d⟩, fun c => ⟨fun c2 => ⟨fun _ => ⟨rfl, h⟩, fun _ => ⟨fun _ => ⟨rfl, h⟩, fun d => ?_⟩⟩, fun c2 => ⟨fun c3 => ⟨fun _ => ⟨rfl, h⟩, fun _ => ⟨fun _ => ⟨rfl, h⟩, fun _ => ⟨fun _ => ⟨rfl, h⟩, fun d => absurd c3 d⟩⟩⟩, fun c3 => ?_⟩⟩⟩
  · exfalso; simp only [ti_lt, ti_le, Int32.reduceToInt] at c2 d; omega
  simp only [ti_lt, Int32.reduceToInt] at c c2 c3
  obtain ⟨s, hs, rfl⟩ := ti_nat (x := a) (by omega)
  obtain ⟨k, hk, rfl⟩ := ti_nat (x := b) (by omega)
  rw [ti_nI hs] at c c2
  have hz := h.2.1.1 s (by omega)
  have hm := hz.2.2.1
  rw [if_neg (by omega)] at hm
  have e4 : (4 : Int32) + nI s = nI (4 + s) := nI_add 4 s
  obtain ⟨n, hn2, en⟩ := ti_nat hz.2.1
  rw [show 4 * 1 + s = 4 + s by omega] at hz hm en
  have e11 : M 11 s = nI n := hz.1.trans en
  rw [en, ti_nI hn2] at hm
  try dsimp only
  rw [e4, nI_clamp hs, nI_clamp (show 4 + s < 2 ^ 31 by omega), e11, en]
  have hp : ¬ nI s < 0 := nI_pos hs
  have hp2 : ¬ nI k < 0 := nI_pos hk
  have h3 : ¬ (3 : Int32) ≤ nI s := by rw [ti_le, ti_nI hs]; simp only [Int32.reduceToInt]; omega
  have v2 : vp_in (nI (4 + s)) 8 := vp_in_nI (by omega) (by omega)
  refine ⟨vp_in_nI (by omega) (by omega), fun c4 => ?_, fun c4 => ⟨fun d => absurd d hp, fun _ => ⟨fun d => absurd d h3, fun _ => ⟨fun d => absurd d hp2, fun _ => ⟨v2, fun _ => ⟨rfl, h⟩, fun d => ?_⟩⟩⟩⟩⟩
  · rw [nI_ltI hk hn2] at c4
    have e1 : nI s * (2048 : Int32) + nI k = nI (2048 * s + k) := by
      rw [show (2048 : Int32) = nI 2048 from rfl, pk_mul, nI_add, Nat.mul_comm]
    have e2 : (6144 : Int32) + (2048 : Int32) * nI s + nI k = nI (6144 + 2048 * s + k) := by
      rw [show (2048 : Int32) = nI 2048 from rfl, show (6144 : Int32) = nI 6144 from rfl, pk_mul, nI_add, nI_add]
    rw [e1, e2]
    refine ⟨vp_in_nI (by omega) (by omega), fun d => absurd d hp, fun _ => ⟨fun d => absurd d h3, fun _ => ⟨fun d => absurd d hp2, fun _ => ⟨v2, fun d => absurd d (nI_ge c4 hn2), fun _ => ⟨vp_in_nI (by omega) (by omega), ?_, h⟩⟩⟩⟩⟩
    rw [nI_clamp (show 2048 * s + k < 2 ^ 31 by omega), nI_clamp (show 6144 + 2048 * s + k < 2 ^ 31 by omega)]
    have hb := h.2.1.2.1 s k (by omega) (by rw [show 4 * 1 + s = 4 + s by omega, en, ti_nI hn2]; omega)
    rwa [show 6144 * 1 + 2048 * s + k = 6144 + 2048 * s + k by omega] at hb
  · exfalso
    rw [nI_ltI hk hn2] at c4
    rw [nI_leI hn2 hk] at d
    omega
theorem c_startAt {a : Int32} {M : gMem} (h : pInv M) : wp_OF_startAt (fun r M1 => wp_MO_startAt (fun r' M2 => r = r' ∧ pInv M2) a M1) a M := by
  obtain ⟨n, hn, h1, h2, h3, h4⟩ := h.2.1.2.2.1
  have e12 : vp_in (1 : Int32) 2 := by unfold vp_in; decide
  have hc1 : ((1 : Int32)).toNatClampNeg = 1 := rfl
  unfold wp_OF_startAt wp_CT_startOf_s wp_MO_startAt
  try dsimp only
  rw [hc1, h1, h2]
  refine ⟨fun c => ⟨fun _ => ⟨rfl, h⟩, fun d => absurd c d⟩, fun c => ⟨fun c2 => ?_, fun c2 => ⟨fun d => absurd d c, fun _ => ⟨e12, fun _ => ⟨rfl, h⟩, fun d => ?_⟩⟩⟩⟩
  · have c' := c
    simp only [ti_lt, Int32.reduceToInt] at c'
    obtain ⟨k, hk, rfl⟩ := ti_nat (x := a) (by omega)
    rw [nI_ltI hk (by omega)] at c2
    have e : (1024 : Int32) + nI k = nI (1024 + k) := nI_add 1024 k
    rw [e, nI_clamp hk, nI_clamp (by omega)]
    have hh := (h3 k c2).1
    rw [show 1024 * 1 + k = 1024 + k by omega] at hh
    exact ⟨vp_in_nI (by omega) (by omega), fun d => absurd d c, fun _ => ⟨e12, fun d => absurd d (nI_ge c2 (by omega)), fun _ => ⟨vp_in_nI (by omega) (by omega), hh, h⟩⟩⟩
  · exfalso
    simp only [ti_lt, ti_le] at c2 d
    omega
