/-! the call relocation -/
section
variable {M : gMem}
def rlOk (s p k t a : Int32) (n : Int32) : Prop := kdI s k ∧ adOk k a ∧ (0 : Int32) ≤ p ∧ ¬ t < -1 ∧ t < n ∧ decide (k = 43 ∨ k = 51) = decide (t = -1)
theorem w_rel {post : Int32 → gMem → Prop} {s p k t a n : Int32} (hn : M 1 7 = n) (h1 : rlOk s p k t a n → wp_CT_addRelocation_m (fun r M' => post r M') s p k t a M) (h2 : ¬ rlOk s p k t a n → post (-1) M) : wp_OF_relocation post s p k t a M := by
  unfold wp_OF_relocation
  refine w_kind (fun c1 => q_f (by decide) (w_addend (fun c2 => q_f (by decide) ⟨fun c3 => ⟨fun c4 => h2 (fun w => w.2.2.2.1 c4), fun c4 => ?_⟩, fun c3 => h2 (fun w => c3 w.2.2.1)⟩) (fun c2 => q_t rfl (h2 (fun w => c2 w.2.1))))) (fun c1 => q_t rfl (h2 (fun w => c1 w.1)))
  rw [hn]
  refine ⟨fun c5 => h2 (fun w => ?_), fun c5 => w_hasSym ?_⟩
  · have := w.2.2.2.2.1
    rw [ti_lt] at this
    rw [ti_le] at c5
    omega
  · have c5' : t < n := by rw [ti_lt]; rw [ti_le] at c5; omega
    unfold wj_OF_relocation_56
    refine ⟨fun c6 => ?_, fun c6 => ?_⟩
    · by_cases c7 : k = 43 ∨ k = 51
      · rw [decide_eq_true c7]
        exact q_t rfl (h1 ⟨c1, c2, c3, c4, c5', by rw [decide_eq_true c7, decide_eq_true c6]⟩)
      · rw [decide_eq_false c7]
        exact q_f (by decide) (h2 (fun w => by have := w.2.2.2.2.2; rw [decide_eq_false c7, decide_eq_true c6] at this; exact absurd this (by decide)))
    · by_cases c7 : k = 43 ∨ k = 51
      · rw [decide_eq_true c7]
        exact q_f (by decide) (h2 (fun w => by have := w.2.2.2.2.2; rw [decide_eq_true c7, decide_eq_false c6] at this; exact absurd this (by decide)))
      · rw [decide_eq_false c7]
        exact q_t rfl (h1 ⟨c1, c2, c3, c4, c5', by rw [decide_eq_false c7, decide_eq_false c6]⟩)
theorem m_rel {post : Int32 → gMem → Prop} {s p k t a n c : Int32} (hn : M 54 0 = n) (hc : M 60 0 = c) (h1 : rlOk s p k t a n → ¬ c = 300 → wj_MO_relocation_85 post s p k t a c M) (h2 : (c = 300 ∨ ¬ rlOk s p k t a n) → post (-1) M) : wp_MO_relocation post s p k t a M := by
  have t64 : ∀ x : Int32, x.toInt64.toInt = x.toInt := fun x => by first | exact Int32.toInt_toInt64 x | simp
  subst hn
  unfold wp_MO_relocation
  refine ⟨in_02, ?_⟩
  rw [cl_0, hc]
  refine q_x ⟨fun d => h2 (Or.inl d), fun d0 => ⟨fun d => h2 (Or.inr (fun w => ?_)), fun d1 => ⟨fun d => h2 (Or.inr (fun w => ?_)), fun d2 => m_kind ⟨d1, d2⟩ (fun c1 => q_f (by decide) ⟨fun d => h2 (Or.inr (fun w => w.2.2.2.1 d)), fun d3 => ⟨in_02, fun d4 => m_alone ?_, fun d => h2 (Or.inr (fun w => d w.2.2.2.2.1))⟩⟩) (fun c1 => q_t rfl (h2 (Or.inr (fun w => c1 w.1))))⟩⟩⟩
  · rcases w.1 with ⟨_, x, _⟩ | ⟨x, _⟩
    · exact x d
    · rw [x] at d; exact absurd d (by decide)
  · rcases w.1 with ⟨_, _, x⟩ | ⟨x, _⟩
    · exact x d
    · rw [x] at d; exact absurd d (by decide)
  have go : decide (k = 43 ∨ k = 51) = decide (t = -1) → (¬ k = 43 → wj_MO_relocation_85 post s p k t a c M) ∧ (k = 43 → wp_MO_isSkip (fun r12 M13 => (bI r12 = 0 → post (-1) M13) ∧ (¬ bI r12 = 0 → wj_MO_relocation_85 post s p k t a c M13)) a.toInt64 M) := by
    intro c7
    have fin : adOk k a → wj_MO_relocation_85 post s p k t a c M := by
      intro c8
      by_cases c9 : (0 : Int32) ≤ p
      · exact h1 ⟨c1, c8, c9, d3, d4, c7⟩ d0
      · unfold wj_MO_relocation_85
        exact q_f c9 (h2 (Or.inr (fun w => c9 w.2.2.1)))
    refine ⟨fun d5 => fin (fun e => absurd e d5), fun d5 => m_skip (fun c8 => q_f (by decide) (fin (fun _ => ?_))) (fun c8 => q_t rfl (h2 (Or.inr (fun w => c8 ?_))))⟩
    · rw [t64] at c8; exact c8
    · rw [t64]; exact w.2.1 d5
  have no : ¬ decide (k = 43 ∨ k = 51) = decide (t = -1) → post (-1) M := fun c7 => h2 (Or.inr (fun w => c7 w.2.2.2.2.2))
  unfold wj_MO_relocation_67
  refine ⟨fun c6 => ?_, fun c6 => ?_⟩
  · rw [decide_eq_false c6] at go no
    by_cases c7 : k = 43 ∨ k = 51
    · rw [decide_eq_true c7] at no ⊢
      exact q_f' (by decide) (no (by decide))
    · rw [decide_eq_false c7] at go ⊢
      exact q_t' rfl (go rfl)
  · rw [decide_eq_true c6] at go no
    by_cases c7 : k = 43 ∨ k = 51
    · rw [decide_eq_true c7] at go ⊢
      exact q_t' rfl (go rfl)
    · rw [decide_eq_false c7] at no ⊢
      exact q_f' (by decide) (no (by decide))
theorem c_relocation {s p k t a : Int32} {M : gMem} (h : pInv M) : wp_OF_relocation (fun r M1 => wp_MO_relocation (fun r' M2 => r = r' ∧ pInv M2) s p k t a M1) s p k t a M := by
  obtain ⟨z, y, st, ⟨nu, hnu, u1, u2, u3⟩, ⟨n, hn, e1, e2, e3⟩⟩ := id h.1
  have e2' : M 60 0 = nI n := e2
  have u2' : M 54 0 = nI nu := u2
  refine w_rel u1 (fun ok => ?_) (fun no => m_rel u2' e2' (fun w => absurd w no) (fun _ => ⟨rfl, h⟩))
  unfold wp_CT_addRelocation_m
  rw [e1]
  refine q_n0 (q_lt (b := 300) (fun c => q_x (fun M2 q2 => q_x ?_)) (fun c => m_rel u2' e2' (fun _ w => absurd (show nI n = 300 by rw [show n = 300 by omega]; rfl) w) (fun _ => ⟨rfl, h⟩)))
  rw [nI_1] at q2
  rw [show nI n * (5 : Int32) = nI (5 * n) by rw [show (5 : Int32) = nI 5 from rfl, pk_mul, Nat.mul_comm], show nI (5 * n) + (0 : Int32) = nI (5 * n) from nI_add (5 * n) 0, nI_1, i2, show nI (5 * n) + (3 : Int32) = nI (5 * n + 3) from nI_add _ 3, i4]
  rw [nI_clamp (show 5 * n < 2 ^ 31 by omega), nI_clamp (show 5 * n + 1 < 2 ^ 31 by omega), nI_clamp (show 5 * n + 2 < 2 ^ 31 by omega), nI_clamp (show 5 * n + 3 < 2 ^ 31 by omega), nI_clamp (show 5 * n + 4 < 2 ^ 31 by omega)]
  refine ⟨vp_in_nI (by omega) (by omega), fun M5 q5 => ⟨vp_in_nI (by omega) (by omega), fun M6 q6 => ⟨vp_in_nI (by omega) (by omega), fun M7 q7 => ⟨vp_in_nI (by omega) (by omega), fun M8 q8 => ⟨vp_in_nI (by omega) (by omega), fun M9 q9 => ?_⟩⟩⟩⟩⟩
  have oA : ∀ c j, 9 ≤ c → M9 c j = M c j := fun c j hc => by rw [u_ne q9, u_ne q8, u_ne q7, u_ne q6, u_ne q5, u_ne q2]
  have bA : rFb M9 := upB q9 (upB q8 (upB q7 (upB q6 (upB q5 (upB q2 h.2.2.2.2.2.1)))))
  have fA : fr (fun c j => (c = 1 ∧ j = 9) ∨ c = 8) M M9 := by
    have f2 : fr (fun c j => (c = 1 ∧ j = 9) ∨ c = 8) M M2 := by rw [q2]; exact fr_upd (Or.inl ⟨rfl, rfl⟩)
    have f5 : fr (fun c j => (c = 1 ∧ j = 9) ∨ c = 8) M2 M5 := by rw [q5]; exact fr_upd (Or.inr rfl)
    have f6 : fr (fun c j => (c = 1 ∧ j = 9) ∨ c = 8) M5 M6 := by rw [q6]; exact fr_upd (Or.inr rfl)
    have f7 : fr (fun c j => (c = 1 ∧ j = 9) ∨ c = 8) M6 M7 := by rw [q7]; exact fr_upd (Or.inr rfl)
    have f8 : fr (fun c j => (c = 1 ∧ j = 9) ∨ c = 8) M7 M8 := by rw [q8]; exact fr_upd (Or.inr rfl)
    have f9 : fr (fun c j => (c = 1 ∧ j = 9) ∨ c = 8) M8 M9 := by rw [q9]; exact fr_upd (Or.inr rfl)
    exact f2.trans (f5.trans (f6.trans (f7.trans (f8.trans f9))))
  have ec : M9 1 9 = nI (n + 1) := by rw [u_ne q9, u_ne q8, u_ne q7, u_ne q6, u_ne q5]; exact u_at q2
  refine m_rel ((oA 54 0 (by omega)).trans u2') ((oA 60 0 (by omega)).trans e2') (fun _ _ => ?_) (fun w => ?_)
  · unfold wj_MO_relocation_85
    have hin : vp_in (nI n) 600 := vp_in_nI (by omega) (by omega)
    rw [nI_clamp (by omega), cl_0]
    refine q_t ok.2.2.1 ⟨hin, fun Ma ea => ⟨hin, fun Mb eb => ⟨hin, fun Mc ec' => ⟨hin, fun Md ed => ⟨hin, fun Me ee => ⟨in_02, in_02, fun Mf ef => ⟨rfl, ?_⟩⟩⟩⟩⟩⟩⟩
    rw [show Me 60 0 = nI n by rw [u_ne ee, u_ne ed, u_ne ec', u_ne eb, u_ne ea, oA 60 0 (by omega)]; exact e2', nI_1] at ef
    have cls : ∀ c j, c ≤ 54 → Mf c j = M9 c j := fun c j hc => by rw [u_ne ef, u_ne ee, u_ne ed, u_ne ec', u_ne eb, u_ne ea]
    have fB : fr (fun c j => (55 ≤ c ∧ c ≤ 59 ∧ j = n) ∨ (c = 60 ∧ j = 0)) M9 Mf := by
      intro c j hq
      rw [u_ne ef, u_ne ee, u_ne ed, u_ne ec', u_ne eb, u_ne ea]
    have fT : fr (fun c j => (c = 1 ∧ j = 9) ∨ c = 8 ∨ (55 ≤ c ∧ c ≤ 59 ∧ j = n) ∨ (c = 60 ∧ j = 0)) M Mf := (fA.mono fun c j q => by omega).trans (fB.mono fun c j q => by omega)
    have fM : fr sMade M Mf := fT.mono fun c j q => by
      rcases q with q | q | q | q
      · exact md1 (by omega)
      · exact md1 (by omega)
      · exact md9 (by omega)
      · exact mdA q
    have bF : rFb Mf := by
      intro c hc j
      have : c ≤ 40 := by simp only [List.mem_cons, List.not_mem_nil, or_false] at hc; omega
      rw [cls c j (by omega)]
      exact bA c hc j
    have hk := ok.1
    have hs : 0 ≤ s.toInt ∧ s.toInt ≤ 2 := by
      rcases hk with ⟨_, x1, x2⟩ | ⟨x, _⟩
      · rw [ti_lt, Int32.toInt_zero] at x1
        rw [ti_lt, show (2 : Int32).toInt = 2 from rfl] at x2
        omega
      · rw [x]; decide
    refine inv_made fM h ⟨rSz_e (fT.e fun c j q => by unfold fpZ at q; omega) z, rBy_e (fT.e fun c j q => by unfold fpD at q; omega) z y, rSt_e (fT.e fun c j q => by unfold fpT at q; omega) st, rSy_e (fT.e fun c j q => by unfold fpY at q; omega) ⟨nu, hnu, u1, u2, u3⟩, ⟨n + 1, by omega, by rw [cls 1 9 (by omega)]; exact ec, u_at ef, fun x hx => ?_⟩⟩ bF
    by_cases cx : x = n
    · subst cx
      unfold rRe1
      rw [show 300 * 0 + x = x by omega]
      have a1 : Mf 55 x = s := by rw [u_ne ef, u_ne ee, u_ne ed, u_ne ec', u_ne eb]; exact u_at ea
      have a2 : Mf 56 x = p := by rw [u_ne ef, u_ne ee, u_ne ed, u_ne ec']; exact u_at eb
      have a3 : Mf 57 x = k := by rw [u_ne ef, u_ne ee, u_ne ed]; exact u_at ec'
      have a4 : Mf 58 x = t := by rw [u_ne ef, u_ne ee]; exact u_at ed
      have a5 : Mf 59 x = a := by rw [u_ne ef]; exact u_at ee
      have a6 : Mf 54 0 = nI nu := by rw [cls 54 0 (by omega), oA 54 0 (by omega)]; exact u2'
      rw [a1, a2, a3, a4, a5, a6]
      refine ⟨?_, ?_, ?_, ?_, ?_, hs.1, hs.2, ?_, kdI_ka hk, ?_, ?_, fun e => ?_⟩
      · show Mf 8 (5 * x) = s
        rw [cls 8 _ (by omega), u_ne q9, u_ne q8, u_ne q7, u_ne q6]; exact u_at q5
      · show Mf 8 (5 * x + 1) = p
        rw [cls 8 _ (by omega), u_ne q9, u_ne q8, u_ne q7]; exact u_at q6
      · show Mf 8 (5 * x + 2) = k
        rw [cls 8 _ (by omega), u_ne q9, u_ne q8]; exact u_at q7
      · show Mf 8 (5 * x + 3) = t
        rw [cls 8 _ (by omega), u_ne q9]; exact u_at q8
      · show Mf 8 (5 * x + 4) = a
        rw [cls 8 _ (by omega)]; exact u_at q9
      · have := ok.2.2.1; rw [ti_le, Int32.toInt_zero] at this; exact this
      · have := ok.2.2.2.1; rw [ti_lt, show (-1 : Int32).toInt = -1 from rfl] at this; omega
      · have := ok.2.2.2.2.1; rw [ti_lt] at this; exact this
      · have := ok.2.1 e; omega
    · have o8 : ∀ j, j < 5 * n → Mf 8 j = M 8 j := fun j hj => by rw [cls 8 j (by omega), u_ne q9, u_ne q8, u_ne q7, u_ne q6, u_ne q5, u_ne q2]
      have oM : ∀ c, 55 ≤ c → c ≤ 59 → Mf c x = M c x := fun c hc1 hc2 => fT c x (by omega)
      have r := e3 x (by omega)
      unfold rRe1 at r ⊢
      rw [show 300 * 0 + x = x by omega] at r ⊢
      rw [oM 55 (by omega) (by omega), oM 56 (by omega) (by omega), oM 57 (by omega) (by omega), oM 58 (by omega) (by omega), oM 59 (by omega) (by omega), fT 54 0 (by omega)]
      rw [show Mf (1 + 7) (5 * x) = M 8 (5 * x) from o8 _ (by omega), show Mf (1 + 7) (5 * x + 1) = M 8 (5 * x + 1) from o8 _ (by omega), show Mf (1 + 7) (5 * x + 2) = M 8 (5 * x + 2) from o8 _ (by omega), show Mf (1 + 7) (5 * x + 3) = M 8 (5 * x + 3) from o8 _ (by omega), show Mf (1 + 7) (5 * x + 4) = M 8 (5 * x + 4) from o8 _ (by omega)]
      exact r
  · rcases w with w | w
    · exfalso
      have := (nI_eq (show n < 2 ^ 31 by omega) (show 300 < 2 ^ 31 by omega)).mp w
      omega
    · exact absurd ok w
end
