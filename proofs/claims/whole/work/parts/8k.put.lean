/-! put -/
section
theorem c_put {a0 a1 : Int32} {v : Int64} {M : gMem} (h : pInv M) : wp_OF_put (fun r M1 => wp_MO_put (fun r' M2 => r = r' ∧ pInv M2) a0 a1 v M1) a0 a1 v M := by
  obtain ⟨z, y, t, u, e⟩ := h.1
  unfold wp_OF_put wp_CT_append_m wp_MO_put
  refine ⟨fun c => q_t c ⟨rfl, h⟩, fun c => ⟨fun c2 => q_f c (q_t c2 ⟨rfl, h⟩), fun c2 => ⟨fun c3 => q_f c (q_f c2 (q_t c3 ⟨rfl, h⟩)), fun c3 => ⟨fun c4 => q_f c (q_f c2 (q_f c3 (q_t c4 ⟨rfl, h⟩))), fun c4 => ?_⟩⟩⟩⟩
  have d1 := c
  have d2 := c2
  have d3 := c3
  have d4 := c4
  rw [ti_lt, show (0 : Int32).toInt = 0 from rfl] at c
  rw [ti_lt, show (2 : Int32).toInt = 2 from rfl] at c2
  rw [ti_lt, show (1 : Int32).toInt = 1 from rfl] at c3
  rw [ti_lt, show (8 : Int32).toInt = 8 from rfl] at c4
  obtain ⟨s, hs, rfl⟩ := ti_nat (x := a0) (by omega)
  obtain ⟨m, hm, rfl⟩ := ti_nat (x := a1) (by omega)
  rw [ti_nI hs] at c c2
  rw [ti_nI hm] at c3 c4
  have hz := z s (by omega)
  rw [show 4 * 0 + s = s by omega, if_neg (by omega)] at hz
  obtain ⟨n, hn, en⟩ := ti_nat hz.2.1
  have e3 : M 3 s = nI n := hz.1.trans en
  rw [en, ti_nI hn] at hz
  have hn2 : n ≤ 2048 := by omega
  rw [nI_clamp (by omega), e3, nI_add]
  refine ⟨vp_in_nI (by omega) (by omega), q_le (b := 2048) (fun c5 => ?_) (fun c5 => ?_)⟩
  · refine pk_loop (fun k i M' => wl_CT_append_m_39 _ k (nI s) (nI m) v (nI i) M') (fun i M' => fr (fun c j => c = 2 ∨ (c = 3 ∧ j = s)) M M' ∧ rFb M' ∧ M' 3 s = nI (n + i) ∧ (∀ j, (j < 2048 * s + n ∨ 2048 * s + n + i ≤ j) → M' 2 j = M 2 j) ∧ ∀ j, j < i → M' 2 (2048 * s + n + j) = yB v j) m 0 M (by omega) ⟨fr.refl, h.2.2.2.2.2.1, e3, fun _ _ => rfl, fun j hj => by omega⟩ ?_ ?_
    · rintro k M' ⟨h1, h2, h3, h5, h6⟩
      unfold wl_CT_append_m_39
      refine q_le (fun _ => q_f d1 (q_f d2 (q_f d3 (q_f d4 ⟨vp_in_nI (by omega) (by omega), ?_⟩)))) (fun c => by omega)
      have e43 : M' 43 s = nI n := by rw [h1 43 s (by omega)]; exact en
      rw [e43, nI_add]
      refine q_le (b := 2048) (fun _ => ?_) (fun c => by omega)
      refine pk_loop (fun k i M2 => wl_MO_put_39 _ k (nI s) (nI m) v (nI i) M2) (fun i M2 => fr (fun c j => c = 42 ∧ 2048 * s + n ≤ j ∧ j < 2048 * s + n + i) M' M2 ∧ ∀ j, j < i → M2 42 (2048 * s + n + j) = xB v j) m 0 M' (by omega) ⟨fr.refl, fun j hj => by omega⟩ ?_ ?_
      · rintro k2 M2 ⟨g1, g2⟩
        unfold wl_MO_put_39
        have e43' : M2 43 s = nI n := by rw [g1 43 s (by omega)]; exact e43
        rw [nI_clamp (by omega), e43', nI_add]
        refine q_le (fun _ => ⟨vp_in_nI (by omega) (by omega), vp_in_nI (by omega) (by omega), fun M3 e9 => ⟨rfl, ?_⟩⟩) (fun c => by omega)
        have f1 : fr sMade M M' := h1.mono (fun c j q => md1 (by omega))
        have f2 : fr sMade M' M2 := g1.mono (fun c j q => md2 ⟨q.1, by omega⟩)
        have f3 : fr sMade M2 M3 := by rw [e9]; exact fr_upd (md3 ⟨Or.inl rfl, by omega⟩)
        have cls : ∀ c j, c ≤ 41 → M3 c j = M' c j := fun c j hc => by rw [u_ne e9, g1 c j (by omega)]
        have oth : ∀ c j, c ≠ 2 → c ≠ 42 → ¬ (c = 3 ∧ j = s) → ¬ (c = 43 ∧ j = s) → M3 c j = M c j := fun c j a1 a2 a3 a4 => by rw [u_ne e9, g1 c j (by omega), h1 c j (by omega)]
        have b3 : rFb M3 := by
          intro c hc j
          have : c ≤ 40 := by simp only [List.mem_cons, List.not_mem_nil, or_false] at hc; omega
          rw [cls c j (by omega)]
          exact h2 c hc j
        have x3 : M3 3 s = nI (n + m) := by rw [cls 3 s (by omega)]; exact h3
        have x43 : M3 43 s = nI (n + m) := u_at e9
        refine inv_made (f1.trans (f2.trans f3)) h ⟨fun s' hs' => ?_, fun s' k' hs' hk' => ?_, rSt_e (fun c j q => oth c j (by unfold fpT at q; omega) (by unfold fpT at q; omega) (by unfold fpT at q; omega) (by unfold fpT at q; omega)) t, rSy_e (fun c j q => oth c j (by unfold fpY at q; omega) (by unfold fpY at q; omega) (by unfold fpY at q; omega) (by unfold fpY at q; omega)) u, rRe_e (fun c j q => oth c j (by unfold fpE at q; omega) (by unfold fpE at q; omega) (by unfold fpE at q; omega) (by unfold fpE at q; omega)) e⟩ b3
        · have zz := z s' hs'
          rw [show 4 * 0 + s' = s' by omega] at zz ⊢
          rw [show M3 (1 + 3) s' = M 4 s' from oth 4 s' (by omega) (by omega) (by omega) (by omega), oth 44 s' (by omega) (by omega) (by omega) (by omega)]
          by_cases cs : s' = s
          · subst cs
            rw [show M3 (1 + 2) s' = nI (n + m) from x3, x43, ti_nI (by omega), if_neg (by omega)]
            exact ⟨rfl, by omega, by omega, zz.2.2.2⟩
          · rw [show M3 (1 + 2) s' = M 3 s' from oth 3 s' (by omega) (by omega) (by omega) (by omega), oth 43 s' (by omega) (by omega) (by omega) (by omega)]
            exact zz
        · rw [show 4 * 0 + s' = s' by omega] at hk'
          rw [show 6144 * 0 + 2048 * s' + k' = 2048 * s' + k' by omega]
          show M3 2 (2048 * s' + k') &&& 255 = _
          rw [cls 2 _ (by omega), u_ne e9]
          have zz := (z s' (by omega)).2.2.1
          rw [show 4 * 0 + s' = s' by omega, if_neg (by omega)] at zz
          by_cases cs : s' = s
          · subst cs
            rw [x43, ti_nI (by omega)] at hk'
            by_cases ck : k' < n
            · rw [h5 _ (by omega), g1 42 _ (by omega), h1 42 _ (by omega)]
              have := y s' k' hs' (by rw [show 4 * 0 + s' = s' by omega, en, ti_nI hn]; omega)
              rw [show 6144 * 0 + 2048 * s' + k' = 2048 * s' + k' by omega] at this
              exact this
            · have q1 := h6 (k' - n) (by omega)
              have q2 := g2 (k' - n) (by omega)
              rw [show 2048 * s' + n + (k' - n) = 2048 * s' + k' by omega] at q1 q2
              rw [q1, q2]
              exact yB_x (by omega)
          · rw [oth 43 s' (by omega) (by omega) (by omega) (by omega)] at hk'
            rw [h5 _ (by omega), g1 42 _ (by omega), h1 42 _ (by omega)]
            have := y s' k' hs' (by rw [show 4 * 0 + s' = s' by omega]; exact hk')
            rw [show 6144 * 0 + 2048 * s' + k' = 2048 * s' + k' by omega] at this
            exact this
      · rintro k2 i M2 hi ⟨g1, g2⟩ K
        unfold wl_MO_put_39 wp_MO_byteOf
        have e43' : M2 43 s = nI n := by rw [g1 43 s (by omega)]; exact e43
        rw [nI_clamp (by omega), e43', show (2048 : Int32) * nI s + nI n + nI i = nI (2048 * s + n + i) by rw [show (2048 : Int32) = nI 2048 from rfl, pk_mul, nI_add, nI_add], nI_clamp (by omega)]
        refine q_le (fun c => by omega) (fun _ => ⟨vp_in_nI (by omega) (by omega), vp_in_nI (by omega) (by omega), fun M3 e9 => q_x ?_⟩)
        rw [nI_1]
        have f9 : fr (fun c j => c = 42 ∧ 2048 * s + n ≤ j ∧ j < 2048 * s + n + (i + 1)) M2 M3 := by rw [e9]; exact fr_upd ⟨rfl, by omega, by omega⟩
        refine K M3 ⟨(g1.mono fun c j q => ⟨q.1, q.2.1, by omega⟩).trans f9, fun j hj => ?_⟩
        by_cases cj : j = i
        · subst cj; exact u_at e9
        · rw [u_ne e9]; exact g2 j (by omega)
    · rintro k i M' hi ⟨h1, h2, h3, h5, h6⟩ K
      unfold wl_CT_append_m_39
      rw [nI_clamp (by omega), h3, show nI s * (2048 : Int32) + nI (n + i) = nI (2048 * s + n + i) by rw [show (2048 : Int32) = nI 2048 from rfl, pk_mul, nI_add]; congr 1; omega, nI_clamp (by omega)]
      refine q_le (fun c => by omega) (fun _ => ⟨vp_in_nI (by omega) (by omega), vp_in_nI (by omega) (by omega), fun M2 e2 => ⟨vp_in_nI (by omega) (by omega), vp_in_nI (by omega) (by omega), fun M3 e9 => q_x ?_⟩⟩)
      rw [show M2 3 s = nI (n + i) by rw [u_ne e2]; exact h3, nI_1] at e9
      have f2 : fr (fun c j => c = 2 ∨ (c = 3 ∧ j = s)) M' M2 := by rw [e2]; exact fr_upd (Or.inl rfl)
      have f3 : fr (fun c j => c = 2 ∨ (c = 3 ∧ j = s)) M2 M3 := by rw [e9]; exact fr_upd (Or.inr ⟨rfl, rfl⟩)
      have b2 : rFb M2 := by rw [e2]; exact rFb_upd h2 yB_f
      rw [nI_1]
      refine K M3 ⟨h1.trans (f2.trans f3), upB e9 b2, u_at e9, fun j hj => ?_, fun j hj => ?_⟩
      · rw [u_ne e9, u_ne e2]; exact h5 j (by omega)
      · by_cases cj : j = i
        · subst cj; rw [u_ne e9]; exact u_at e2
        · rw [u_ne e9, u_ne e2]; exact h6 j (by omega)
  · refine q_f d1 (q_f d2 (q_f d3 (q_f d4 ⟨vp_in_nI (by omega) (by omega), ?_⟩)))
    rw [en, nI_add]
    exact q_le (b := 2048) (fun c => by omega) (fun _ => ⟨rfl, h⟩)
end
