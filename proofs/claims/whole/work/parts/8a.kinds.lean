/-! kinds of relocations, their widths, their addends -/
section
variable {M : gMem}
abbrev pKa (k : Int32) : Prop := k = 1 ∨ k = 16 ∨ k = 17 ∨ k = 19 ∨ k = 23 ∨ k = 24 ∨ k = 25 ∨ k = 26 ∨ k = 27 ∨ k = 28 ∨ k = 33 ∨ k = 34 ∨ k = 35 ∨ k = 37 ∨ k = 38 ∨ k = 39 ∨ k = 43 ∨ k = 44 ∨ k = 45 ∨ k = 51
abbrev pK7 (k : Int32) : Prop := k = 1 ∨ k = 33 ∨ k = 34 ∨ k = 35 ∨ k = 37 ∨ k = 38 ∨ k = 39
abbrev kdI (s k : Int32) : Prop := (pK7 k ∧ ¬ s < 0 ∧ ¬ (2 : Int32) < s) ∨ (s = 0 ∧ pKa k)
def wd (k a : Int32) : Int32 := if k = 43 then a else if k = 51 then 0 else if k = 33 then 1 else if k = 37 then 1 else if k = 34 then 2 else if k = 38 then 2 else if k = 44 then 2 else if k = 45 then 2 else if k = 19 then 8 else 4
theorem pKa_z {k : Int32} {c : Int} (h : pKa k) (hc : k.toInt = c) : c = 1 ∨ c = 16 ∨ c = 17 ∨ c = 19 ∨ c = 23 ∨ c = 24 ∨ c = 25 ∨ c = 26 ∨ c = 27 ∨ c = 28 ∨ c = 33 ∨ c = 34 ∨ c = 35 ∨ c = 37 ∨ c = 38 ∨ c = 39 ∨ c = 43 ∨ c = 44 ∨ c = 45 ∨ c = 51 := by
  rcases h with h | h | h | h | h | h | h | h | h | h | h | h | h | h | h | h | h | h | h | h
  all_goals (rw [← hc, h]; decide)
theorem pKa_7 {k : Int32} (h : pK7 k) : pKa k := by
  rcases h with h | h | h | h | h | h | h
  all_goals (rw [h]; decide)
theorem w_width {post : Int32 → gMem → Prop} {k a : Int32} (h1 : pKa k → post (wd k a) M) (h2 : ¬ pKa k → post (-1) M) : wp_OF_widthOf post k a M := by
  unfold wp_OF_widthOf
  by_cases hk : pKa k
  · have h := h1 hk
    clear h1 h2
    rcases hk with e | e | e | e | e | e | e | e | e | e | e | e | e | e | e | e | e | e | e | e
    all_goals
      subst e
      repeat (first | refine q_f (by decide) ?_ | refine q_t rfl ?_)
      exact h
  · have h := h2 hk
    clear h1 h2
    repeat (refine ⟨fun e => (by first | exact h | exact absurd (by rw [e]; decide) hk), fun _ => ?_⟩)
    exact h
theorem m_width {post : Int32 → gMem → Prop} {k a : Int32} (h : post (wd k a) M) : wp_MO_widthOf post k a M := by
  unfold wp_MO_widthOf
  unfold wd at h
  by_cases c1 : k = 43
  · rw [if_pos c1] at h; exact q_t' c1 h
  rw [if_neg c1] at h
  refine q_f' c1 ?_
  by_cases c2 : k = 51
  · rw [if_pos c2] at h; exact q_t' c2 h
  rw [if_neg c2] at h
  refine q_f' c2 ?_
  by_cases c3 : k = 33
  · rw [if_pos c3] at h; exact q_t c3 h
  rw [if_neg c3] at h
  refine q_f c3 ?_
  by_cases c4 : k = 37
  · rw [if_pos c4] at h; exact q_t' c4 h
  rw [if_neg c4] at h
  refine q_f' c4 ?_
  by_cases c5 : k = 34
  · rw [if_pos c5] at h; exact q_t c5 h
  rw [if_neg c5] at h
  refine q_f c5 ?_
  by_cases c6 : k = 38
  · rw [if_pos c6] at h; exact q_t c6 h
  rw [if_neg c6] at h
  refine q_f c6 ?_
  by_cases c7 : k = 44
  · rw [if_pos c7] at h; exact q_t c7 h
  rw [if_neg c7] at h
  refine q_f c7 ?_
  by_cases c8 : k = 45
  · rw [if_pos c8] at h; exact q_t' c8 h
  rw [if_neg c8] at h
  refine q_f' c8 ?_
  by_cases c9 : k = 19
  · rw [if_pos c9] at h; exact q_t' c9 h
  rw [if_neg c9] at h
  exact q_f' c9 h
theorem w_kind {post : Bool → gMem → Prop} {s k : Int32} (h1 : kdI s k → post true M) (h2 : ¬ kdI s k → post false M) : wp_OF_kindMayBeIn post s k M := by
  unfold wp_OF_kindMayBeIn
  have h7 : pK7 k → (s < 0 → post false M) ∧ (¬ s < 0 → ((2 : Int32) < s → post false M) ∧ (¬ (2 : Int32) < s → post true M)) := by
    intro e
    refine ⟨fun d => h2 ?_, fun d => ⟨fun d2 => h2 ?_, fun d2 => h1 (Or.inl ⟨e, d, d2⟩)⟩⟩
    · rintro (⟨_, x, _⟩ | ⟨x, _⟩)
      · exact x d
      · rw [x] at d; exact absurd d (by decide)
    · rintro (⟨_, _, x⟩ | ⟨x, _⟩)
      · exact x d2
      · rw [x] at d2; exact absurd d2 (by decide)
  refine ⟨fun e => h7 (by rw [e]; decide), fun n1 => ⟨fun e => h7 (by rw [e]; decide), fun n2 => ⟨fun e => h7 (by rw [e]; decide), fun n3 => ⟨fun e => h7 (by rw [e]; decide), fun n4 => ⟨fun e => h7 (by rw [e]; decide), fun n5 => ⟨fun e => h7 (by rw [e]; decide), fun n6 => ⟨fun e => h7 (by rw [e]; decide), fun n7 => ?_⟩⟩⟩⟩⟩⟩⟩
  have no7 : ¬ pK7 k := by
    rintro (e | e | e | e | e | e | e)
    · exact n1 e
    · exact n2 e
    · exact n3 e
    · exact n4 e
    · exact n5 e
    · exact n6 e
    · exact n7 e
  refine ⟨fun d => h2 ?_, fun d => w_width (fun hk => ?_) (fun hk => ?_)⟩
  · rintro (⟨x, _⟩ | ⟨x, _⟩)
    · exact no7 x
    · exact d x
  · have hp := h1 (Or.inr ⟨d, hk⟩)
    clear h1 h2 h7 n1 n2 n3 n4 n5 n6 n7
    refine ⟨fun e => ?_, fun _ => hp⟩
    exfalso
    rcases hk with g | g | g | g | g | g | g | g | g | g | g | g | g | g | g | g | g | g | g | g
    all_goals (subst g; exact absurd e (by decide))
  · refine ⟨fun _ => h2 ?_, fun e => absurd rfl e⟩
    rintro (⟨x, _⟩ | ⟨_, x⟩)
    · exact no7 x
    · exact hk x
theorem m_isKind {post : Bool → gMem → Prop} {k : Int32} (h1 : pKa k → post true M) (h2 : ¬ pKa k → post false M) : wp_MO_isKind post k M := by
  have e8 : ∀ {c : Int32}, k.toInt = c.toInt → k = c := fun h => Int32.toInt_inj.mp h
  have z8 : ∀ {c : Int32}, ¬ k = c → ¬ k.toInt = c.toInt := fun h g => h (Int32.toInt_inj.mp g)
  unfold wp_MO_isKind
  refine ⟨fun e => h1 (by rw [e]; decide), fun n1 => ⟨fun e => h1 (by rw [e]; decide), fun n2 => ⟨fun e => h1 (by rw [e]; decide), fun n3 => ⟨fun e => h1 (by rw [e]; decide), fun n4 => ?_⟩⟩⟩⟩
  have m1 : ¬ k.toInt = 1 := z8 n1
  have m2 : ¬ k.toInt = 16 := z8 n2
  have m3 : ¬ k.toInt = 17 := z8 n3
  have m4 : ¬ k.toInt = 19 := z8 n4
  have fin : ¬ (23 ≤ k.toInt ∧ k.toInt ≤ 28) → ¬ (33 ≤ k.toInt ∧ k.toInt ≤ 35) → ¬ (37 ≤ k.toInt ∧ k.toInt ≤ 39) → ¬ (43 ≤ k.toInt ∧ k.toInt ≤ 45) → wj_MO_isKind_71 post k M := by
    intro a1 a2 a3 a4
    refine ⟨fun d => h2 (fun h => ?_), fun d => h1 (by rw [d]; decide)⟩
    have d5 : ¬ k.toInt = 51 := z8 d
    have := pKa_z h rfl
    rcases this with g | g | g | g | g | g | g | g | g | g | g | g | g | g | g | g | g | g | g | g
    all_goals omega
  have f59 : ¬ (23 ≤ k.toInt ∧ k.toInt ≤ 28) → ¬ (33 ≤ k.toInt ∧ k.toInt ≤ 35) → ¬ (37 ≤ k.toInt ∧ k.toInt ≤ 39) → wj_MO_isKind_59 post k M := by
    intro a1 a2 a3
    unfold wj_MO_isKind_59
    rw [ti_lt, ti_le, show (43 : Int32).toInt = 43 from rfl, show (45 : Int32).toInt = 45 from rfl]
    refine ⟨fun d => fin a1 a2 a3 (by omega), fun d => ⟨fun d2 => h1 ?_, fun d2 => fin a1 a2 a3 (by omega)⟩⟩
    rcases (by omega : k.toInt = 43 ∨ k.toInt = 44 ∨ k.toInt = 45) with g | g | g
    · rw [e8 (c := 43) g]; decide
    · rw [e8 (c := 44) g]; decide
    · rw [e8 (c := 45) g]; decide
  have f47 : ¬ (23 ≤ k.toInt ∧ k.toInt ≤ 28) → ¬ (33 ≤ k.toInt ∧ k.toInt ≤ 35) → wj_MO_isKind_47 post k M := by
    intro a1 a2
    unfold wj_MO_isKind_47
    rw [ti_lt, ti_le, show (37 : Int32).toInt = 37 from rfl, show (39 : Int32).toInt = 39 from rfl]
    refine ⟨fun d => f59 a1 a2 (by omega), fun d => ⟨fun d2 => h1 ?_, fun d2 => f59 a1 a2 (by omega)⟩⟩
    rcases (by omega : k.toInt = 37 ∨ k.toInt = 38 ∨ k.toInt = 39) with g | g | g
    · rw [e8 (c := 37) g]; decide
    · rw [e8 (c := 38) g]; decide
    · rw [e8 (c := 39) g]; decide
  have f35 : ¬ (23 ≤ k.toInt ∧ k.toInt ≤ 28) → wj_MO_isKind_35 post k M := by
    intro a1
    unfold wj_MO_isKind_35
    rw [ti_lt, ti_le, show (33 : Int32).toInt = 33 from rfl, show (35 : Int32).toInt = 35 from rfl]
    refine ⟨fun d => f47 a1 (by omega), fun d => ⟨fun d2 => h1 ?_, fun d2 => f47 a1 (by omega)⟩⟩
    rcases (by omega : k.toInt = 33 ∨ k.toInt = 34 ∨ k.toInt = 35) with g | g | g
    · rw [e8 (c := 33) g]; decide
    · rw [e8 (c := 34) g]; decide
    · rw [e8 (c := 35) g]; decide
  rw [ti_lt, ti_le, show (23 : Int32).toInt = 23 from rfl, show (28 : Int32).toInt = 28 from rfl]
  refine ⟨fun d => f35 (by omega), fun d => ⟨fun d2 => h1 ?_, fun d2 => f35 (by omega)⟩⟩
  rcases (by omega : k.toInt = 23 ∨ k.toInt = 24 ∨ k.toInt = 25 ∨ k.toInt = 26 ∨ k.toInt = 27 ∨ k.toInt = 28) with g | g | g | g | g | g
  · rw [e8 (c := 23) g]; decide
  · rw [e8 (c := 24) g]; decide
  · rw [e8 (c := 25) g]; decide
  · rw [e8 (c := 26) g]; decide
  · rw [e8 (c := 27) g]; decide
  · rw [e8 (c := 28) g]; decide
theorem m_kind {post : Bool → gMem → Prop} {s k : Int32} (hs : ¬ s < 0 ∧ ¬ (2 : Int32) < s) (h1 : kdI s k → post true M) (h2 : ¬ kdI s k → post false M) : wp_MO_isKindOf post k s M := by
  unfold wp_MO_isKindOf
  refine m_isKind (fun hk => q_f (by decide) ⟨fun d => h1 (Or.inr ⟨d, hk⟩), fun d => ⟨fun e => h1 (Or.inl ⟨Or.inl e, hs⟩), fun n1 => ?_⟩⟩) (fun hk => q_t rfl (h2 ?_))
  · have hz := pKa_z hk rfl
    have e8 : ∀ {c : Int32}, k.toInt = c.toInt → k = c := fun h => Int32.toInt_inj.mp h
    have no : (k.toInt < 33 ∨ 39 < k.toInt) → ¬ kdI s k := by
      rintro g (⟨x, _⟩ | ⟨x, _⟩)
      · rcases x with x | x | x | x | x | x | x
        · exact n1 x
        all_goals (rw [x] at g; exact absurd g (by decide))
      · exact d x
    rw [ti_lt, ti_lt, show (33 : Int32).toInt = 33 from rfl, show (39 : Int32).toInt = 39 from rfl]
    refine ⟨fun c => h2 (no (Or.inl c)), fun c => ⟨fun c2 => h2 (no (Or.inr c2)), fun c2 => h1 (Or.inl ⟨?_, hs⟩)⟩⟩
    have : k.toInt = 33 ∨ k.toInt = 34 ∨ k.toInt = 35 ∨ k.toInt = 37 ∨ k.toInt = 38 ∨ k.toInt = 39 := by
      rcases hz with g | g | g | g | g | g | g | g | g | g | g | g | g | g | g | g | g | g | g | g
      all_goals omega
    rcases this with g | g | g | g | g | g
    · rw [e8 (c := 33) g]; decide
    · rw [e8 (c := 34) g]; decide
    · rw [e8 (c := 35) g]; decide
    · rw [e8 (c := 37) g]; decide
    · rw [e8 (c := 38) g]; decide
    · rw [e8 (c := 39) g]; decide
  · rintro (⟨x, _⟩ | ⟨_, x⟩)
    · exact hk (pKa_7 x)
    · exact hk x
theorem kdI_ka {s k : Int32} (h : kdI s k) : pKa k := by
  rcases h with ⟨x, _⟩ | ⟨_, x⟩
  · exact pKa_7 x
  · exact x
def adOk (k a : Int32) : Prop := k = 43 → 0 ≤ a.toInt ∧ a.toInt ≤ 62 ∧ a.toInt % 2 = 0
theorem w_addend {post : Bool → gMem → Prop} {k a : Int32} (h1 : adOk k a → post true M) (h2 : ¬ adOk k a → post false M) : wp_OF_addendMayBe post k a M := by
  unfold wp_OF_addendMayBe
  refine ⟨fun d => h1 (fun e => absurd e d), fun d => ?_⟩
  rw [ti_lt, ti_lt, show (62 : Int32).toInt = 62 from rfl, show (0 : Int32).toInt = 0 from rfl]
  refine ⟨fun c => h2 (fun h => by have := h d; omega), fun c => ⟨fun c2 => h2 (fun h => by have := h d; omega), fun c2 => ?_⟩⟩
  obtain ⟨j, hj, e⟩ := ti_nat (x := a) (by omega)
  subst e
  rw [ti_nI (by omega)] at c c2
  rw [even_and (by omega)]
  refine q_ne (b := 0) (fun z => h2 (fun h => ?_)) (fun z => h1 (fun _ => ?_))
  · have := (h d).2.2
    rw [ti_nI (by omega)] at this
    omega
  · rw [ti_nI (by omega)]; omega
theorem m_skip {post : Bool → gMem → Prop} {a : Int64} (h1 : (0 ≤ a.toInt ∧ a.toInt ≤ 62 ∧ a.toInt % 2 = 0) → post true M) (h2 : ¬ (0 ≤ a.toInt ∧ a.toInt ≤ 62 ∧ a.toInt % 2 = 0) → post false M) : wp_MO_isSkip post a M := by
  unfold wp_MO_isSkip
  rw [Int64.lt_iff_toInt_lt, Int64.lt_iff_toInt_lt, show (62 : Int64).toInt = 62 from rfl, show (0 : Int64).toInt = 0 from rfl]
  refine ⟨fun c => h2 (by omega), fun c => ⟨fun c2 => h2 (by omega), fun c2 => ?_⟩⟩
  have e : a = lN a.toInt.toNat := Int64.toInt_inj.mp (by rw [pk_lT (by omega)]; omega)
  generalize hj : a.toInt.toNat = j at e
  have ha : a.toInt = (j : Int) := by omega
  rw [ha] at h1 h2
  rw [e, show (2 : Int64) = lN 2 from rfl, pk_lRem (by omega) (by omega) (by omega)]
  exact ql_ne (b := 0) (fun z => h2 (by omega)) (fun z => h1 (by omega))
theorem w_hasSym {post : Bool → gMem → Prop} {k : Int32} (h : post (!decide (k = 43 ∨ k = 51)) M) : wp_OF_hasSymbol post k M := by
  unfold wp_OF_hasSymbol
  refine ⟨fun d => ?_, fun d => ⟨fun d2 => ?_, fun d2 => ?_⟩⟩
  · rw [decide_eq_true (Or.inl d)] at h; exact h
  · rw [decide_eq_true (Or.inr d2)] at h; exact h
  · rw [decide_eq_false (fun x => x.elim d d2)] at h; exact h
theorem m_alone {post : Bool → gMem → Prop} {k : Int32} (h : post (decide (k = 43 ∨ k = 51)) M) : wp_MO_isAlone post k M := by
  unfold wp_MO_isAlone
  refine ⟨fun d => ?_, fun d => ⟨fun d2 => ?_, fun d2 => ?_⟩⟩
  · rw [decide_eq_true (Or.inl d)] at h; exact h
  · rw [decide_eq_false (fun x => x.elim d d2)] at h; exact h
  · rw [decide_eq_true (Or.inr d2)] at h; exact h
end
