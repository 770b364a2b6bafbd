/-! symbol, both -/
section
theorem c_symbol {w v z d t : Int32} {M : gMem} (h : pInv M) : wp_OF_symbol (fun r M1 => wp_MO_symbol (fun r' M2 => r = r' ∧ pInv M2) w v z d t M1) w v z d t M := by
  obtain ⟨hz, hy, hst, ⟨n, hn, u1, u2, u3⟩, hre⟩ := id h.1
  obtain ⟨m, hm, dl1, dl2, dc⟩ := id h.2.2.2.1
  have u2' : M 54 0 = nI n := u2
  unfold wp_OF_symbol
  rw [dl1]
  refine q_x (fun M2 e2 => ?_)
  have o2 : ∀ c j, c ≠ 0 → M2 c j = M c j := fun c j hc => u_ne e2 (Or.inl hc)
  have b2 : rFb M2 := upB e2 h.2.2.2.2.2.1
  have u1' : M2 1 7 = nI n := (o2 1 7 (by omega)).trans u1
  have rows2 : ∀ x, x < n → rSy1 1 0 x M2 := fun x hx => rSy1_e (by omega) (fun c j q => o2 c j (by unfold fpY at q; omega)) (u3 x hx)
  have hd2 : ∀ i, i < m → M2 40 i = M2 61 i := fun i hi => by rw [o2 40 i (by omega), o2 61 i (by omega)]; exact (dc i hi).1
  have f2 : fr sMD M M2 := by rw [e2]; exact fr_upd (Or.inr (by unfold sDr; omega))
  -- failing: the reference fails too
  have fail : (n = 100 ∨ m = 0 ∨ ¬ (¬ w < -1 ∧ ¬ (5 : Int32) < w) ∨ ¬ bdOk d t ∨ ¬ syOk w v z d ∨ (¬ d = 0 ∧ dupN M2 m n)) → wp_MO_symbol (fun r' M2 => (-1 : Int32) = r' ∧ pInv M2) w v z d t M2 := by
    intro c
    refine m_symb ((o2 54 0 (by omega)).trans u2') hn ((o2 41 20 (by omega)).trans dl2) hm (fun a1 a2 a3 a4 a5 a6 => ?_) (fun _ M3 f3 e3 => ⟨rfl, ?_⟩)
    · exfalso
      rcases c with c | c | c | c | c | c
      · omega
      · exact a2 c
      · exact c a3
      · exact c a4
      · exact c a5
      · exact a6 c
    · have f3' : fr sMD M2 M3 := f3.mono fun c j q => by
        rcases q with q | ⟨hq, q | q | q⟩
        · exact mdD q
        · exact mdD q
        · exact Or.inl (md6 (by omega))
        · exact Or.inl (md7 (by omega))
      have oo : ∀ c j, c ≠ 0 → c ≠ 41 → ¬ (c = 52 ∧ n ≤ j) → ¬ (c = 53 ∧ 16 * n ≤ j) → M3 c j = M c j := fun c j h1 h2 h3 h4 => by rw [f3 c j (by unfold sRow; omega), o2 c j h1]
      refine inv_md (f2.trans f3') h ⟨rSz_e (fun c j q => oo c j (by unfold fpZ at q; omega) (by unfold fpZ at q; omega) (by unfold fpZ at q; omega) (by unfold fpZ at q; omega)) hz, rBy_e (fun c j q => oo c j (by unfold fpD at q; omega) (by unfold fpD at q; omega) (by unfold fpD at q; omega) (by unfold fpD at q; omega)) hz hy, rSt_e (fun c j q => oo c j (by unfold fpT at q; omega) (by unfold fpT at q; omega) (by unfold fpT at q; omega) (by unfold fpT at q; omega)) hst, ⟨n, hn, (oo 1 7 (by omega) (by omega) (by omega) (by omega)).trans u1, (oo 54 0 (by omega) (by omega) (by omega) (by omega)).trans u2', fun x hx => ?_⟩, rRe_e (fun c j q => oo c j (by unfold fpE at q; omega) (by unfold fpE at q; omega) (by unfold fpE at q; omega) (by unfold fpE at q; omega)) hre⟩ ⟨0, by omega, ?_, e3, fun k hk => by omega⟩ ?_
      · have r := u3 x hx
        unfold rSy1 at r ⊢
        rw [show 100 * 0 + x = x by omega] at r ⊢
        rw [oo (1 + 5) (6 * x) (by omega) (by omega) (by omega) (by omega), oo (1 + 5) (6 * x + 1) (by omega) (by omega) (by omega) (by omega), oo (1 + 5) (6 * x + 2) (by omega) (by omega) (by omega) (by omega), oo (1 + 5) (6 * x + 3) (by omega) (by omega) (by omega) (by omega), oo (1 + 5) (6 * x + 4) (by omega) (by omega) (by omega) (by omega), oo (1 + 5) (6 * x + 5) (by omega) (by omega) (by omega) (by omega), oo 47 x (by omega) (by omega) (by omega) (by omega), oo 48 x (by omega) (by omega) (by omega) (by omega), oo 49 x (by omega) (by omega) (by omega) (by omega), oo 50 x (by omega) (by omega) (by omega) (by omega), oo 51 x (by omega) (by omega) (by omega) (by omega), oo 52 x (by omega) (by omega) (by omega) (by omega)]
        refine ⟨r.1, r.2.1, r.2.2.1, r.2.2.2.1, r.2.2.2.2.1, r.2.2.2.2.2.1, r.2.2.2.2.2.2.1, fun i hi => ?_⟩
        have ok := r.2.2.2.2.2.2.1.2.2.2.2.2.2.2.1
        have rr := r.2.2.2.2.2.2.2 i hi
        rw [oo (1 + 6) (16 * x + i) (by omega) (by omega) (by omega) (by omega), oo 53 (16 * x + i) (by omega) (by omega) (by omega) (by omega)]
        exact rr
      · rw [f3 0 8 (by unfold sRow; omega)]; exact u_at e2
      · intro c hc j
        have : c ≤ 40 := by simp only [List.mem_cons, List.not_mem_nil, or_false] at hc; omega
        rw [f3 c j (by unfold sRow; omega)]
        exact b2 c hc j
  have add : m ≠ 0 → (¬ w < -1 ∧ ¬ (5 : Int32) < w) → bdOk d t → syOk w v z d → ¬ (¬ d = 0 ∧ dupN M2 m n) → wj_OF_symbol_84 (fun r M1 => wp_MO_symbol (fun r' M2 => r = r' ∧ pInv M2) w v z d t M1) w v z d t (nI m) M2 := by
    intro a1 a2 a3 a4 a5
    unfold wj_OF_symbol_84 wp_CT_addSymbol_m_40
    rw [u1']
    refine q_n0 (q_le (a := 100) (fun c => ?_) (fun cn => q_lt (b := 1) (fun c => by omega) (fun _ => q_le (b := 16) (fun _ => q_f (by decide) ?_) (fun c => by omega))))
    · unfold wp_CT_tellSymbol_m
      exact q_t (by decide) (fail (Or.inl (by omega)))
    · rw [show (16 : Int32) - nI m = nI (16 - m) from pk_sub (a := 16) (by omega)]
      refine q_le (a := 0) (fun _ => q_x (fun M3 e3 => ?_)) (fun c => by omega)
      rw [nI_1] at e3
      rw [show nI n * (16 : Int32) = nI (n * 16) from pk_mul n 16, show nI n * (6 : Int32) + (5 : Int32) = nI (n * 6 + 5) by rw [show (6 : Int32) = nI 6 from rfl, show (5 : Int32) = nI 5 from rfl, pk_mul, nI_add]]
      rw [cl_0, nI_clamp (show n * 16 < 2 ^ 31 by omega), nI_clamp (show m < 2 ^ 31 by omega), nI_clamp (show n * 6 + 5 < 2 ^ 31 by omega)]
      have b3 := upB e3 b2
      have hfit : ∀ j, fits .byte (.int (M3 40 j)) = true := b3 40 (by decide)
      refine ⟨by decide, nI_pos (by omega), nI_pos (by omega), by omega, by omega, fun j _ => hfit _, fun M4 e4 => ⟨vp_in_nI (by omega) (by omega), fun M5 e5 => ?_⟩⟩
      have b4 : rFb M4 := by rw [e4]; exact rFb_cpy b3 (fun j _ => hfit _)
      have b5 := upB e5 b4
      unfold wp_CT_tellSymbol_m
      have h17 : M5 1 7 = nI (n + 1) := by rw [u_ne e5, y_ne e4]; exact u_at e3
      dsimp only
      rw [h17]
      refine q_n0 (q_lt (fun _ => q_x ?_) (fun c => by omega))
      rw [show nI n * (6 : Int32) = nI (6 * n) by rw [show (6 : Int32) = nI 6 from rfl, pk_mul, Nat.mul_comm], show nI (6 * n) + (0 : Int32) = nI (6 * n) from nI_add (6 * n) 0, nI_1, i2, show nI (6 * n) + (3 : Int32) = nI (6 * n + 3) from nI_add _ 3, i4]
      rw [nI_clamp (show 6 * n < 2 ^ 31 by omega), nI_clamp (show 6 * n + 1 < 2 ^ 31 by omega), nI_clamp (show 6 * n + 2 < 2 ^ 31 by omega), nI_clamp (show 6 * n + 3 < 2 ^ 31 by omega), nI_clamp (show 6 * n + 4 < 2 ^ 31 by omega)]
      refine ⟨vp_in_nI (by omega) (by omega), fun M6 e6 => ⟨vp_in_nI (by omega) (by omega), fun M7 e7 => ⟨vp_in_nI (by omega) (by omega), fun M8 e8 => ⟨vp_in_nI (by omega) (by omega), fun M9 e9 => ⟨vp_in_nI (by omega) (by omega), fun Ma ea => ?_⟩⟩⟩⟩⟩
      have ba : rFb Ma := upB ea (upB e9 (upB e8 (upB e7 (upB e6 b5))))
      have oA : ∀ c j, c ≠ 1 → c ≠ 6 → c ≠ 7 → Ma c j = M2 c j := fun c j x1 x2 x3 => by rw [u_ne ea, u_ne e9, u_ne e8, u_ne e7, u_ne e6, u_ne e5, y_ne e4, u_ne e3]
      have o6 : ∀ j, j < 6 * n → Ma 6 j = M2 6 j := fun j hj => by rw [u_ne ea, u_ne e9, u_ne e8, u_ne e7, u_ne e6, u_ne e5, y_ne e4, u_ne e3]
      have o7 : ∀ j, j < 16 * n → Ma 7 j = M2 7 j := fun j hj => by rw [u_ne ea, u_ne e9, u_ne e8, u_ne e7, u_ne e6, u_ne e5, y_ne e4, u_ne e3]
      have o1 : ∀ j, j ≠ 7 → Ma 1 j = M2 1 j := fun j hj => by rw [u_ne ea, u_ne e9, u_ne e8, u_ne e7, u_ne e6, u_ne e5, y_ne e4, u_ne e3]
      have k17 : Ma 1 7 = nI (n + 1) := by rw [u_ne ea, u_ne e9, u_ne e8, u_ne e7, u_ne e6]; exact h17
      have g0 : Ma 6 (6 * n) = w := by rw [u_ne ea, u_ne e9, u_ne e8, u_ne e7]; exact u_at e6
      have g1 : Ma 6 (6 * n + 1) = v := by rw [u_ne ea, u_ne e9, u_ne e8]; exact u_at e7
      have g2 : Ma 6 (6 * n + 2) = z := by rw [u_ne ea, u_ne e9]; exact u_at e8
      have g3 : Ma 6 (6 * n + 3) = d := by rw [u_ne ea]; exact u_at e9
      have g4 : Ma 6 (6 * n + 4) = t := u_at ea
      have g5 : Ma 6 (6 * n + 5) = nI m := by rw [u_ne ea, u_ne e9, u_ne e8, u_ne e7, u_ne e6, show 6 * n + 5 = n * 6 + 5 by omega]; exact u_at e5
      have g7 : ∀ i, i < m → Ma 7 (16 * n + i) = M2 40 i := fun i hi => by
        rw [u_ne ea, u_ne e9, u_ne e8, u_ne e7, u_ne e6, u_ne e5, show 16 * n + i = n * 16 + i by omega, y_at e4 hi, u_ne e3, show 0 + i = i by omega]
      have fA : fr sMD M2 Ma := by
        intro c j hc
        have hc' : ¬ (1 ≤ c ∧ c ≤ 8) := fun w => hc (Or.inl (md1 w))
        exact oA c j (by omega) (by omega) (by omega)
      clear e3 e4 e5 e6 e7 e8 e9 ea b3 b4 b5 hfit h17
      have dA : dupN Ma m n → dupN M2 m n := by
        rintro ⟨x, hx, x1, x2, x3⟩
        rw [oA 50 x (by omega) (by omega) (by omega)] at x1
        rw [oA 52 x (by omega) (by omega) (by omega)] at x2
        refine ⟨x, hx, x1, x2, fun i hi => ?_⟩
        have := x3 i hi
        rw [oA 53 _ (by omega) (by omega) (by omega), oA 61 _ (by omega) (by omega) (by omega)] at this
        exact this
      refine m_symb (by rw [oA 54 0 (by omega) (by omega) (by omega), o2 54 0 (by omega)]; exact u2') hn (by rw [oA 41 20 (by omega) (by omega) (by omega), o2 41 20 (by omega)]; exact dl2) hm (fun _ _ _ _ _ _ N1 k1 k2 k3 k4 N7 q7 N8 q8 N9 q9 N10 q10 N11 q11 N12 q12 => ⟨rfl, ?_⟩) (fun c => ?_)
      · have oB : ∀ c j, c ≤ 46 → ¬ (c = 41 ∧ j = 20) → N12 c j = Ma c j := fun c j hc h9 => by rw [u_ne q12, u_ne q11, u_ne q10, u_ne q9, u_ne q8, u_ne q7, k1 c j (by unfold sRow; omega)]
        have oC : ∀ c j, 55 ≤ c → N12 c j = Ma c j := fun c j hc => by rw [u_ne q12, u_ne q11, u_ne q10, u_ne q9, u_ne q8, u_ne q7, k1 c j (by unfold sRow; omega)]
        have oD : ∀ c j, 47 ≤ c → c ≤ 52 → j < n → N12 c j = M c j := fun c j hc h9 hj => by rw [u_ne q12, u_ne q11, u_ne q10, u_ne q9, u_ne q8, u_ne q7, k1 c j (by unfold sRow; omega), oA c j (by omega) (by omega) (by omega), o2 c j (by omega)]
        have oE : ∀ j, j < 16 * n → N12 53 j = M 53 j := fun j hj => by rw [u_ne q12, u_ne q11, u_ne q10, u_ne q9, u_ne q8, u_ne q7, k1 53 j (by unfold sRow; omega), oA 53 j (by omega) (by omega) (by omega), o2 53 j (by omega)]
        have p54 : N12 54 0 = nI (n + 1) := u_at q12
        have p47 : N12 47 n = w := by rw [u_ne q12, u_ne q11, u_ne q10, u_ne q9, u_ne q8]; exact u_at q7
        have p48 : N12 48 n = v := by rw [u_ne q12, u_ne q11, u_ne q10, u_ne q9]; exact u_at q8
        have p49 : N12 49 n = z := by rw [u_ne q12, u_ne q11, u_ne q10]; exact u_at q9
        have p50 : N12 50 n = d := by rw [u_ne q12, u_ne q11]; exact u_at q10
        have p51 : N12 51 n = t := by rw [u_ne q12]; exact u_at q11
        have p52 : N12 52 n = nI m := by rw [u_ne q12, u_ne q11, u_ne q10, u_ne q9, u_ne q8, u_ne q7]; exact k2
        have p53 : ∀ i, i < m → N12 53 (16 * n + i) = M 61 i := fun i hi => by rw [u_ne q12, u_ne q11, u_ne q10, u_ne q9, u_ne q8, u_ne q7, k3 i hi, oA 61 i (by omega) (by omega) (by omega), o2 61 i (by omega)]
        have pdr : N12 41 20 = 0 := by rw [u_ne q12, u_ne q11, u_ne q10, u_ne q9, u_ne q8, u_ne q7]; exact k4
        have fB : fr sMD Ma N12 := by
          intro c j hc
          have hc1 : ¬ (c = 41 ∧ j = 20) := fun w => hc (mdD w)
          have hc2 : ¬ (47 ≤ c ∧ c ≤ 52 ∧ j < 100) := fun w => hc (Or.inl (md6 w))
          have hc3 : ¬ (c = 53 ∧ j < 1600) := fun w => hc (Or.inl (md7 w))
          have hc4 : ¬ (c = 54 ∧ j = 0) := fun w => hc (Or.inl (md8 w))
          rw [u_ne q12, u_ne q11, u_ne q10, u_ne q9, u_ne q8, u_ne q7, k1 c j (by unfold sRow; omega)]
        clear q7 q8 q9 q10 q11 q12 k1 k2 k3 k4
        have all : ∀ c j, c ≠ 0 → c ≠ 1 → c ≠ 6 → c ≠ 7 → c ≠ 41 → ¬ (47 ≤ c ∧ c ≤ 54) → N12 c j = M c j := fun c j x0 x1 x6 x7 x41 x47 => by
          by_cases hc : c ≤ 46
          · rw [oB c j hc (by omega), oA c j x1 x6 x7, o2 c j x0]
          · rw [oC c j (by omega), oA c j x1 x6 x7, o2 c j x0]
        have all1 : ∀ j, j ≠ 7 → N12 1 j = M 1 j := fun j hj => by rw [oB 1 j (by omega) (by omega), o1 j hj, o2 1 j (by omega)]
        have l1 : 1 ≤ m := by omega
        refine inv_md (f2.trans (fA.trans fB)) h ⟨rSz_e (fun c j q => all c j (by unfold fpZ at q; omega) (by unfold fpZ at q; omega) (by unfold fpZ at q; omega) (by unfold fpZ at q; omega) (by unfold fpZ at q; omega) (by unfold fpZ at q; omega)) hz, rBy_e (fun c j q => all c j (by unfold fpD at q; omega) (by unfold fpD at q; omega) (by unfold fpD at q; omega) (by unfold fpD at q; omega) (by unfold fpD at q; omega) (by unfold fpD at q; omega)) hz hy, rSt_e (fun c j q => ?_) hst, ⟨n + 1, by omega, by rw [oB (1) 7 (by omega) (by omega)]; exact k17, p54, fun x hx => ?_⟩, ?_⟩ ⟨0, by omega, ?_, pdr, fun k hk => by omega⟩ ?_
        · by_cases cc : c = 1
          · subst cc
            exact all1 j (by unfold fpT at q; omega)
          · exact all c j (by unfold fpT at q; omega) cc (by unfold fpT at q; omega) (by unfold fpT at q; omega) (by unfold fpT at q; omega) (by unfold fpT at q; omega)
        · unfold rSy1
          rw [show 100 * 0 + x = x by omega]
          by_cases cx : x = n
          · subst cx
            rw [p47, p48, p49, p50, p51, p52, oB (1 + 5) _ (by omega) (by omega), oB (1 + 5) _ (by omega) (by omega), oB (1 + 5) _ (by omega) (by omega), oB (1 + 5) _ (by omega) (by omega), oB (1 + 5) _ (by omega) (by omega), oB (1 + 5) _ (by omega) (by omega)]
            refine ⟨g0, g1, g2, g3, g4, g5, ⟨?_, ?_, ?_, ?_, ?_, ?_, ?_, ?_, fun hw => ?_⟩, fun i hi => ?_⟩
            · have := a2.1; rw [ti_lt, show (-1 : Int32).toInt = -1 from rfl] at this; omega
            · have := a2.2; rw [ti_lt, show (5 : Int32).toInt = 5 from rfl] at this; omega
            · have := a3.1; rw [ti_lt, Int32.toInt_zero] at this; omega
            · have := a3.2.1; rw [ti_lt, show (2 : Int32).toInt = 2 from rfl] at this; omega
            · have := a3.2.2.1; rw [ti_lt, Int32.toInt_zero] at this; omega
            · have := a3.2.2.2; rw [ti_lt, show (2 : Int32).toInt = 2 from rfl] at this; omega
            · rw [ti_nI (by omega)]; omega
            · rw [ti_nI (by omega)]; omega
            · have s := a4.2.2.2 (fun e => by rw [e] at hw; exact absurd hw (by decide)) (fun e => by rw [e] at hw; exact absurd hw (by decide)) (fun e => by rw [e] at hw; exact absurd hw (by decide))
              have s1 := s.1
              have s2 := s.2
              rw [ti_lt, Int32.toInt_zero] at s1 s2
              omega
            · rw [ti_nI (by omega)] at hi
              rw [oB (1 + 6) _ (by omega) (by omega), p53 i (by omega)]
              have := g7 i (by omega)
              rw [show Ma (1 + 6) (16 * x + i) = M2 40 i from this, o2 40 i (by omega)]
              exact dc i (by omega)
          · have r := u3 x (by omega)
            unfold rSy1 at r
            rw [show 100 * 0 + x = x by omega] at r
            have c6 : ∀ j, j < 6 * n → N12 (1 + 5) j = M (1 + 5) j := fun j hj => by rw [oB (1 + 5) j (by omega) (by omega)]; exact (o6 j hj).trans (o2 6 j (by omega))
            rw [c6 _ (by omega), c6 _ (by omega), c6 _ (by omega), c6 _ (by omega), c6 _ (by omega), c6 _ (by omega), oD 47 x (by omega) (by omega) (by omega), oD 48 x (by omega) (by omega) (by omega), oD 49 x (by omega) (by omega) (by omega), oD 50 x (by omega) (by omega) (by omega), oD 51 x (by omega) (by omega) (by omega), oD 52 x (by omega) (by omega) (by omega)]
            refine ⟨r.1, r.2.1, r.2.2.1, r.2.2.2.1, r.2.2.2.2.1, r.2.2.2.2.2.1, r.2.2.2.2.2.2.1, fun i hi => ?_⟩
            have ok := r.2.2.2.2.2.2.1.2.2.2.2.2.2.2.1
            have rr := r.2.2.2.2.2.2.2 i hi
            rw [oB (1 + 6) _ (by omega) (by omega), oE _ (by omega)]
            rw [show Ma (1 + 6) (16 * x + i) = M 7 (16 * x + i) from (o7 _ (by omega)).trans (o2 7 _ (by omega))]
            exact rr
        · obtain ⟨ne, hne, v1, v2, v3⟩ := hre
          refine ⟨ne, hne, (all1 9 (by omega)).trans v1, (all 60 0 (by omega) (by omega) (by omega) (by omega) (by omega) (by omega)).trans v2, fun x hx => ?_⟩
          have r := v3 x hx
          unfold rRe1 at r ⊢
          rw [show 300 * 0 + x = x by omega] at r ⊢
          have al : ∀ c j, (c = 8 ∨ 55 ≤ c) → N12 c j = M c j := fun c j hc => all c j (by omega) (by omega) (by omega) (by omega) (by omega) (by omega)
          rw [al (1 + 7) _ (by omega), al (1 + 7) _ (by omega), al (1 + 7) _ (by omega), al (1 + 7) _ (by omega), al (1 + 7) _ (by omega), al 55 _ (by omega), al 56 _ (by omega), al 57 _ (by omega), al 58 _ (by omega), al 59 _ (by omega), p54, ti_nI (by omega)]
          refine ⟨r.1, r.2.1, r.2.2.1, r.2.2.2.1, r.2.2.2.2.1, ?_⟩
          obtain ⟨k1, k2, k3, k4, k5, k6, k7⟩ := r.2.2.2.2.2
          rw [u2', ti_nI (by omega)] at k6
          exact ⟨k1, k2, k3, k4, k5, by omega, k7⟩
        · rw [oB 0 8 (by omega) (by omega), oA 0 8 (by omega) (by omega) (by omega)]; exact u_at e2
        · intro c hc j
          have : c ≤ 40 := by simp only [List.mem_cons, List.not_mem_nil, or_false] at hc; omega
          rw [oB c j (by omega) (by omega)]
          exact ba c hc j
      · exfalso
        rcases c with c | c | c | c | c | c
        · omega
        · exact a1 c
        · exact c a2
        · exact c a3
        · exact c a4
        · exact a5 ⟨c.1, dA c.2⟩
  refine q_eq (b := 0) (fun c => fail (Or.inr (Or.inl c))) (fun cm => ⟨fun c => fail (Or.inr (Or.inr (Or.inl (fun o => o.1 c)))), fun w1 => ⟨fun c => fail (Or.inr (Or.inr (Or.inl (fun o => o.2 c)))), fun w2 => ?_⟩⟩)
  unfold wp_OF_isBindOrType
  refine ⟨fun c => q_t rfl (fail (Or.inr (Or.inr (Or.inr (Or.inl (fun o => o.1 c)))))), fun d1 => ⟨fun c => q_t rfl (fail (Or.inr (Or.inr (Or.inr (Or.inl (fun o => o.2.1 c)))))), fun d2 => q_f (by decide) ⟨fun c => q_t' rfl (fail (Or.inr (Or.inr (Or.inr (Or.inl (fun o => o.2.2.1 c)))))), fun t1 => ⟨fun c => q_t' rfl (fail (Or.inr (Or.inr (Or.inr (Or.inl (fun o => o.2.2.2 c)))))), fun t2 => q_f' (by decide) ?_⟩⟩⟩⟩
  refine w_flaw (fun o => q_t rfl ⟨fun d0 => add cm ⟨w1, w2⟩ ⟨d1, d2, t1, t2⟩ o (fun q => q.1 d0), fun d0 => w_hasG u1' hn rows2 hm hd2 (fun dd => q_f (by decide) (fail (Or.inr (Or.inr (Or.inr (Or.inr (Or.inr ⟨d0, dd⟩))))))) (fun dd => q_t rfl (add cm ⟨w1, w2⟩ ⟨d1, d2, t1, t2⟩ o (fun q => dd q.2)))⟩) (fun r hr no => q_f hr (fail (Or.inr (Or.inr (Or.inr (Or.inr (Or.inl no)))))))
end
