/-! which symbols may be made -/
section
variable {M : gMem}
def syOk (w v z d : Int32) : Prop := (w = -1 → v = 0 ∧ z = 0 ∧ ¬ d = 0) ∧ (w = 4 → ¬ z < 0) ∧ (w = 5 → pPow v ∧ ¬ z < 1 ∧ ¬ (4096 : Int32) < z ∧ d = 1) ∧ (¬ w = -1 → ¬ w = 4 → ¬ w = 5 → ¬ v < 0 ∧ ¬ z < 0)
theorem m_isPower {post : Bool → gMem → Prop} {a : Int32} (h1 : pPow a → post true M) (h2 : ¬ pPow a → post false M) : wp_MO_isPower post a M := by
  unfold wp_MO_isPower
  refine ⟨fun e => h1 (Or.inl e), fun n1 => ⟨fun e => h1 (Or.inr (Or.inl e)), fun n2 => ⟨fun e => h1 (Or.inr (Or.inr (Or.inl e))), fun n3 => ⟨fun e => h1 (Or.inr (Or.inr (Or.inr (Or.inl e)))), fun n4 => ⟨fun e => h1 (Or.inr (Or.inr (Or.inr (Or.inr (Or.inl e))))), fun n5 => ⟨fun e => h1 (Or.inr (Or.inr (Or.inr (Or.inr (Or.inr (Or.inl e)))))), fun n6 => ⟨fun n7 => h2 ?_, fun e => h1 (Or.inr (Or.inr (Or.inr (Or.inr (Or.inr (Or.inr e))))))⟩⟩⟩⟩⟩⟩⟩
  rintro (e | e | e | e | e | e | e)
  · exact n1 e
  · exact n2 e
  · exact n3 e
  · exact n4 e
  · exact n5 e
  · exact n6 e
  · exact n7 e
theorem m_isSymbol {post : Bool → gMem → Prop} {w v z d : Int32} (h1 : syOk w v z d → post true M) (h2 : ¬ syOk w v z d → post false M) : wp_MO_isSymbol post w v z d M := by
  unfold wp_MO_isSymbol
  refine ⟨fun c1 => ?_, fun c1 => ⟨fun c2 => ?_, fun c2 => ⟨fun c3 => ?_, fun c3 => ?_⟩⟩⟩
  · have k4 : ¬ w = 4 := fun e => absurd (c1.symm.trans e) (by decide)
    have k5 : ¬ w = 5 := fun e => absurd (c1.symm.trans e) (by decide)
    refine ⟨fun a => h2 (fun o => a (o.1 c1).1), fun a => ⟨fun a2 => h2 (fun o => a2 (o.1 c1).2.1), fun a2 => ⟨fun a3 => h2 (fun o => (o.1 c1).2.2 a3), fun a3 => h1 ⟨fun _ => ⟨a, a2, a3⟩, fun e => absurd e k4, fun e => absurd e k5, fun e => absurd c1 e⟩⟩⟩⟩
  · have k5 : ¬ w = 5 := fun e => absurd (c2.symm.trans e) (by decide)
    exact ⟨fun a => h2 (fun o => o.2.1 c2 a), fun a => h1 ⟨fun e => absurd e c1, fun _ => a, fun e => absurd e k5, fun _ e => absurd c2 e⟩⟩
  · refine m_isPower (fun p => q_f (by decide) ⟨fun a => h2 (fun o => (o.2.2.1 c3).2.1 a), fun a => ⟨fun a2 => h2 (fun o => (o.2.2.1 c3).2.2.1 a2), fun a2 => ⟨fun a3 => h2 (fun o => a3 (o.2.2.1 c3).2.2.2), fun a3 => h1 ⟨fun e => absurd e c1, fun e => absurd e c2, fun _ => ⟨p, a, a2, a3⟩, fun _ _ e => absurd c3 e⟩⟩⟩⟩) (fun p => q_t rfl (h2 (fun o => p (o.2.2.1 c3).1)))
  · exact ⟨fun a => h2 (fun o => (o.2.2.2 c1 c2 c3).1 a), fun a => ⟨fun a2 => h2 (fun o => (o.2.2.2 c1 c2 c3).2 a2), fun a2 => h1 ⟨fun e => absurd e c1, fun e => absurd e c2, fun e => absurd e c3, fun _ _ _ => ⟨a, a2⟩⟩⟩⟩
theorem w_isAl {post : Bool → gMem → Prop} {a : Int32} (h1 : pPow a → post true M) (h2 : ¬ pPow a → post false M) : wp_OF_isAlignment post a.toInt64 M := by
  by_cases c : a.toInt < 0
  · unfold wp_OF_isAlignment
    refine q_t ?_ (h2 ?_)
    · rw [Int64.lt_iff_toInt_lt, show a.toInt64.toInt = a.toInt by first | exact Int32.toInt_toInt64 a | simp, show (1 : Int64).toInt = 1 from rfl]; omega
    · rintro (e | e | e | e | e | e | e)
      all_goals (rw [e] at c; exact absurd c (by decide))
  · obtain ⟨j, hj, e⟩ := ti_nat (x := a) (by omega)
    subst e
    rw [nI_l (by omega)]
    refine k_isAl ?_
    by_cases p : pw j
    · rw [pwb_t.mpr p]; exact h1 (pw_I p)
    · have : pwb j = false := by
        cases hp : pwb j
        · rfl
        · exact absurd (pwb_t.mp hp) p
      rw [this]
      refine h2 (fun o => p ?_)
      rcases o with e | e | e | e | e | e | e
      · exact Or.inl ((nI_eq hj (by omega)).mp (e.trans (show (1 : Int32) = nI 1 from rfl)))
      · exact Or.inr (Or.inl ((nI_eq hj (by omega)).mp (e.trans (show (2 : Int32) = nI 2 from rfl))))
      · exact Or.inr (Or.inr (Or.inl ((nI_eq hj (by omega)).mp (e.trans (show (4 : Int32) = nI 4 from rfl)))))
      · exact Or.inr (Or.inr (Or.inr (Or.inl ((nI_eq hj (by omega)).mp (e.trans (show (8 : Int32) = nI 8 from rfl))))))
      · exact Or.inr (Or.inr (Or.inr (Or.inr (Or.inl ((nI_eq hj (by omega)).mp (e.trans (show (16 : Int32) = nI 16 from rfl)))))))
      · exact Or.inr (Or.inr (Or.inr (Or.inr (Or.inr (Or.inl ((nI_eq hj (by omega)).mp (e.trans (show (32 : Int32) = nI 32 from rfl))))))))
      · exact Or.inr (Or.inr (Or.inr (Or.inr (Or.inr (Or.inr ((nI_eq hj (by omega)).mp (e.trans (show (64 : Int32) = nI 64 from rfl))))))))
theorem w_first {post : Int32 → gMem → Prop} {a c d : Bool} (h1 : a = true → c = true → d = true → post (-1) M) (h2 : ∀ r : Int32, ¬ r = -1 → ¬ (a = true ∧ c = true ∧ d = true) → post r M) : wp_OF_firstFlaw post (bI a) (bI c) (bI d) M := by
  refine k_first ?_
  cases a
  · exact h2 1 (by decide) (by simp)
  · cases c
    · exact h2 2 (by decide) (by simp)
    · cases d
      · exact h2 3 (by decide) (by simp)
      · exact h1 rfl rfl rfl
theorem w_flaw {post : Int32 → gMem → Prop} {w v z d : Int32} (h1 : syOk w v z d → post (-1) M) (h2 : ∀ r : Int32, ¬ r = -1 → ¬ syOk w v z d → post r M) : wp_OF_flawOf post w v z d (4294967296 : Int64) M := by
  have t64 : ∀ x : Int32, x.toInt64.toInt = x.toInt := fun x => by first | exact Int32.toInt_toInt64 x | simp
  unfold wp_OF_flawOf
  refine ⟨fun c1 => ?_, fun c1 => ⟨fun c2 => ?_, fun c2 => ⟨fun c3 => ?_, fun c3 => ?_⟩⟩⟩
  · have k4 : ¬ w = 4 := fun e => absurd (c1.symm.trans e) (by decide)
    have k5 : ¬ w = 5 := fun e => absurd (c1.symm.trans e) (by decide)
    have e54 : ∀ a c : Bool, a = decide (v = 0) → c = decide (z = 0) → wj_OF_flawOf_54 post d (bI c) (bI a) M := by
      intro a c ea ec
      unfold wj_OF_flawOf_54
      refine ⟨fun e => w_first (d := false) (fun _ _ x => absurd x (by decide)) (fun r hr _ => h2 r hr (fun o => (o.1 c1).2.2 e)), fun e => w_first (d := true) (fun x y _ => h1 ⟨fun _ => ⟨by rw [ea] at x; exact of_decide_eq_true x, by rw [ec] at y; exact of_decide_eq_true y, e⟩, fun e => absurd e k4, fun e => absurd e k5, fun e => absurd c1 e⟩) (fun r hr nn => h2 r hr (fun o => nn ⟨by rw [ea]; exact decide_eq_true (o.1 c1).1, by rw [ec]; exact decide_eq_true (o.1 c1).2.1, rfl⟩))⟩
    have e45 : ∀ a : Bool, a = decide (v = 0) → wj_OF_flawOf_45 post z d (bI a) M := by
      intro a ea
      unfold wj_OF_flawOf_45
      exact ⟨fun e => e54 a false ea (decide_eq_false e).symm, fun e => e54 a true ea (decide_eq_true e).symm⟩
    exact ⟨fun e => e45 false (decide_eq_false e).symm, fun e => e45 true (decide_eq_true e).symm⟩
  · have k5 : ¬ w = 5 := fun e => absurd (c2.symm.trans e) (by decide)
    exact ⟨fun a => w_first (a := true) (c := false) (d := true) (fun _ x _ => absurd x (by decide)) (fun r hr _ => h2 r hr (fun o => o.2.1 c2 a)), fun a => w_first (a := true) (c := true) (d := true) (fun _ _ _ => h1 ⟨fun e => absurd e c1, fun _ => a, fun e => absurd e k5, fun _ e => absurd c2 e⟩) (fun r hr nn => absurd ⟨rfl, rfl, rfl⟩ nn)⟩
  · have e104 : ∀ a c : Bool, (a = true ↔ pPow v) → (c = true ↔ ¬ z < 1 ∧ ¬ (4096 : Int32) < z) → wj_OF_flawOf_104 post d (bI c) (bI a) M := by
      intro a c ea ec
      unfold wj_OF_flawOf_104
      refine ⟨fun e => w_first (d := false) (fun _ _ x => absurd x (by decide)) (fun r hr _ => h2 r hr (fun o => e (o.2.2.1 c3).2.2.2)), fun e => w_first (d := true) (fun x y _ => h1 ⟨fun e => absurd e c1, fun e => absurd e c2, fun _ => ⟨ea.mp x, (ec.mp y).1, (ec.mp y).2, e⟩, fun _ _ e => absurd c3 e⟩) (fun r hr nn => h2 r hr (fun o => nn ⟨ea.mpr (o.2.2.1 c3).1, ec.mpr ⟨(o.2.2.1 c3).2.1, (o.2.2.1 c3).2.2.1⟩, rfl⟩))⟩
    have go : ∀ a : Bool, (a = true ↔ pPow v) → (z < (1 : Int32) → wj_OF_flawOf_103 post d (bI a) M) ∧ (¬ z < (1 : Int32) → ((4096 : Int32) < z → wj_OF_flawOf_103 post d (bI a) M) ∧ (¬ (4096 : Int32) < z → wj_OF_flawOf_104 post d (1 : Int32) (bI a) M)) := by
      intro a ea
      exact ⟨fun e => e104 a false ea ⟨fun x => absurd x (by decide), fun x => absurd e x.1⟩, fun e => ⟨fun e2 => e104 a false ea ⟨fun x => absurd x (by decide), fun x => absurd e2 x.2⟩, fun e2 => e104 a true ea ⟨fun _ => ⟨e, e2⟩, fun _ => rfl⟩⟩⟩
    exact w_isAl (fun p => go true ⟨fun _ => p, fun _ => rfl⟩) (fun p => go false ⟨fun x => absurd x (by decide), fun x => absurd x p⟩)
  · have hv := ti_hi v
    have hv2 := ti_lo v
    have hz := ti_hi z
    have hz2 := ti_lo z
    have big : ∀ x : Int64, x.toInt < 4294967296 → ¬ (4294967296 : Int64) < x := fun x hx => by rw [Int64.lt_iff_toInt_lt, show (4294967296 : Int64).toInt = 4294967296 from rfl]; omega
    have s64 : (v.toInt64 + z.toInt64).toInt = v.toInt + z.toInt := by
      rw [Int64.toInt_add, t64, t64, Int.bmod_def]
      split <;> omega
    have e135 : ∀ a : Bool, (a = true ↔ ¬ v < 0) → wj_OF_flawOf_135 post v z (4294967296 : Int64) (bI a) M := by
      intro a ea
      unfold wj_OF_flawOf_135
      refine ⟨fun e => w_first (c := false) (d := true) (fun _ x _ => absurd x (by decide)) (fun r hr _ => h2 r hr (fun o => (o.2.2.2 c1 c2 c3).2 e)), fun e => q_f (big _ (by rw [s64]; omega)) (w_first (c := true) (d := true) (fun x _ _ => h1 ⟨fun e => absurd e c1, fun e => absurd e c2, fun e => absurd e c3, fun _ _ _ => ⟨ea.mp x, e⟩⟩) (fun r hr nn => h2 r hr (fun o => nn ⟨ea.mpr (o.2.2.2 c1 c2 c3).1, rfl, rfl⟩)))⟩
    refine ⟨fun e => e135 false ⟨fun x => absurd x (by decide), fun x => absurd e x⟩, fun e => q_f (big _ (by rw [t64]; omega)) (e135 true ⟨fun _ => e, fun _ => rfl⟩)⟩
end
