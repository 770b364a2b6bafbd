/-! calls that only read, and the smallest writes -/
theorem c_size {M : gMem} (h : pInv M) : wp_OF_size (fun r M1 => wp_MO_size (fun r' M2 => r = r' ∧ pInv M2) M1) M := by
  obtain ⟨n, hn, h1, h2, h3⟩ := h.2.2.1
  exact ⟨by rw [h1, h2], h⟩
theorem c_place {M : gMem} (h : pInv M) : wp_OF_place (fun r M1 => wp_MO_place (fun r' M2 => r = r' ∧ pInv M2) M1) M := ⟨h.2.2.2.2.1, h⟩
theorem c_bss {a : Int32} {M : gMem} (h : pInv M) : wp_OF_bss (fun r M1 => wp_MO_bss (fun r' M2 => r = r' ∧ pInv M2) a M1) a M := by
  have e3 : vp_in (3 : Int32) 4 := by unfold vp_in; decide
  have e8 : vp_in (3 : Int32) 8 := by unfold vp_in; decide
  unfold wp_OF_bss wp_MO_bss
  refine ⟨fun c => ⟨fun _ => ⟨rfl, h⟩, fun d => absurd c d⟩, fun c => ⟨fun c2 => ⟨e3, fun M1 e => ⟨fun d => absurd d c, fun _ => ⟨fun _ => ⟨e8, fun M2 e2 => ⟨rfl, ?_⟩⟩, fun d => absurd c2 d⟩⟩⟩, fun c2 => ⟨fun _ => ⟨rfl, h⟩, fun _ => ⟨fun d => absurd d c2, fun _ => ⟨rfl, h⟩⟩⟩⟩⟩
  have f1 : fr (fun c j => (c = 3 ∨ c = 43) ∧ j = 3) M M1 := e ▸ fr_upd ⟨Or.inl rfl, rfl⟩
  have f2 : fr (fun c j => (c = 3 ∨ c = 43) ∧ j = 3) M M2 := f1.trans (e2 ▸ fr_upd ⟨Or.inr rfl, rfl⟩)
  simp only [ti_lt, ti_le, Int32.reduceToInt] at c c2
  refine inv_made (f2.mono (fun c j q => by unfold sMade; omega)) h ?_ (by rw [e2, e]; exact rFb_up (rFb_up h.2.2.2.2.2.1 (by decide)) (by decide))
  have i1 := h.1
  have hs : rSz 1 0 M2 := by
    intro s hs
    have hz := i1.1 s hs
    by_cases h3 : s = 3
    · subst h3
      have g1 : M2 3 3 = a := by rw [e2, e]; rfl
      have g2 : M2 43 3 = a := by rw [e2]; rfl
      show M2 3 3 = M2 43 3 ∧ 0 ≤ (M2 43 3).toInt ∧ (M2 43 3).toInt ≤ 4096 ∧ M2 4 3 = M2 44 3 ∧ pPow (M2 44 3)
      rw [g1, g2, f2 4 3 (by omega), f2 44 3 (by omega)]
      exact ⟨rfl, by omega, by omega, hz.2.2.2⟩
    · rw [f2 (1 + 2) s (by omega), f2 (1 + 3) s (by omega), f2 43 (4 * 0 + s) (by omega), f2 44 (4 * 0 + s) (by omega)]
      exact hz
  exact ⟨hs, rBy_e (f2.e (by intro c j q; unfold fpD at q; omega)) i1.1 i1.2.1, rSt_e (f2.e (by intro c j q; unfold fpT at q; omega)) i1.2.2.1, rSy_e (f2.e (by intro c j q; unfold fpY at q; omega)) i1.2.2.2.1, rRe_e (f2.e (by intro c j q; unfold fpE at q; omega)) i1.2.2.2.2⟩
theorem pow_shl : ∀ j : Nat, j < 7 → pPow ((1 : Int32) <<< (nI j &&& 31)) := by
  intro j hj
  unfold pPow
  match j, hj with
  | 0, _ => decide
  | 1, _ => decide
  | 2, _ => decide
  | 3, _ => decide
  | 4, _ => decide
  | 5, _ => decide
  | 6, _ => decide
theorem c_align {a b : Int32} {M : gMem} (h : pInv M) : wp_OF_align (fun r M1 => wp_MO_align (fun r' M2 => r = r' ∧ pInv M2) a b M1) a b M := by
  unfold wp_OF_align wp_MO_align
  by_cases c1 : a < 0
  · exact ⟨fun _ => ⟨fun _ => ⟨rfl, h⟩, fun d => absurd c1 d⟩, fun d => absurd c1 d⟩
  refine ⟨fun d => absurd d c1, fun _ => ?_⟩
  by_cases c2 : (3 : Int32) < a
  · exact ⟨fun _ => ⟨fun _ => ⟨rfl, h⟩, fun _ => ⟨fun _ => ⟨rfl, h⟩, fun d => absurd c2 d⟩⟩, fun d => absurd c2 d⟩
  refine ⟨fun d => absurd d c2, fun _ => ?_⟩
  by_cases c3 : b < 0
  · exact ⟨fun _ => ⟨fun d => absurd d c1, fun _ => ⟨fun d => absurd d c2, fun _ => ⟨fun _ => ⟨rfl, h⟩, fun d => absurd c3 d⟩⟩⟩, fun d => absurd c3 d⟩
  refine ⟨fun d => absurd d c3, fun _ => ?_⟩
  by_cases c4 : b ≤ (6 : Int32)
  · simp only [ti_lt, ti_le, Int32.reduceToInt] at c1 c2 c3 c4
    obtain ⟨s, hs, rfl⟩ := ti_nat (x := a) (by omega)
    obtain ⟨j, hj, rfl⟩ := ti_nat (x := b) (by omega)
    rw [ti_nI hs] at c1 c2
    rw [ti_nI hj] at c3 c4
    refine ⟨fun _ => ⟨vp_in_nI (by omega) (by omega), fun M1 e => ⟨fun d => ?_, fun _ => ⟨fun d => ?_, fun _ => ⟨fun d => ?_, fun _ => ⟨fun _ => ⟨vp_in_nI (by omega) (by omega), fun M2 e2 => ⟨rfl, ?_⟩⟩, fun d => ?_⟩⟩⟩⟩⟩, fun d => ?_⟩
    all_goals try (exfalso; simp only [ti_lt, ti_le, Int32.reduceToInt, ti_nI hs, ti_nI hj] at d; omega)
    rw [nI_clamp hs] at e e2
    have f1 : fr (fun c k => (c = 4 ∨ c = 44) ∧ k = s) M M1 := e ▸ fr_upd ⟨Or.inl rfl, rfl⟩
    have f2 : fr (fun c k => (c = 4 ∨ c = 44) ∧ k = s) M M2 := f1.trans (e2 ▸ fr_upd ⟨Or.inr rfl, rfl⟩)
    refine inv_made (f2.mono (fun c k q => by unfold sMade; omega)) h ?_ (by rw [e2, e]; exact rFb_up (rFb_up h.2.2.2.2.2.1 (by decide)) (by decide))
    have i1 := h.1
    have hz : rSz 1 0 M2 := by
      intro t ht
      have hz := i1.1 t ht
      by_cases h3 : t = s
      · subst h3
        have g1 : M2 4 t = (1 : Int32) <<< (nI j &&& 31) := by rw [e2, e]; simp [va_up, upd]
        have g2 : M2 44 (4 * 0 + t) = (1 : Int32) <<< (nI j &&& 31) := by rw [e2]; simp [va_up, upd]
        rw [f2 (1 + 2) t (by omega), f2 43 (4 * 0 + t) (by omega), g2]
        exact ⟨hz.1, hz.2.1, hz.2.2.1, g1, pow_shl j (by omega)⟩
      · rw [f2 (1 + 2) t (by omega), f2 (1 + 3) t (by omega), f2 43 (4 * 0 + t) (by omega), f2 44 (4 * 0 + t) (by omega)]
        exact hz
    exact ⟨hz, rBy_e (f2.e (by intro c j q; unfold fpD at q; omega)) i1.1 i1.2.1, rSt_e (f2.e (by intro c j q; unfold fpT at q; omega)) i1.2.2.1, rSy_e (f2.e (by intro c j q; unfold fpY at q; omega)) i1.2.2.2.1, rRe_e (f2.e (by intro c j q; unfold fpE at q; omega)) i1.2.2.2.2⟩
  · exact ⟨fun d => absurd d c4, fun _ => ⟨fun d => absurd d c1, fun _ => ⟨fun d => absurd d c2, fun _ => ⟨fun d => absurd d c3, fun _ => ⟨fun d => absurd d c4, fun _ => ⟨rfl, h⟩⟩⟩⟩⟩⟩
