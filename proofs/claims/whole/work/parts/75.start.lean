/-! letter, start -/
theorem i8_id {x : Int32} (h1 : -128 ≤ x.toInt) (h2 : x.toInt < 128) : x.toInt8.toInt32 = x := by
  rw [ti_eq, Int8.toInt_toInt32, Int32.toInt_toInt8, Int.bmod_def]
  split <;> omega
theorem w_nameCh {post : Bool → gMem → Prop} {a : Int32} {M : gMem} (h1 : 33 ≤ a.toInt → a.toInt ≤ 126 → post true M) (h2 : a.toInt < 33 ∨ 126 < a.toInt → post false M) : wp_OF_isNameCharacter post a M := by
  unfold wp_OF_isNameCharacter
  refine ⟨fun c => h2 (Or.inl (by simpa only [ti_lt, Int32.reduceToInt] using c)), fun c => ⟨fun d => h2 (Or.inr (by simpa only [ti_lt, Int32.reduceToInt] using d)), fun d => h1 ?_ ?_⟩⟩
  · simp only [ti_lt, Int32.reduceToInt] at c; omega
  · simp only [ti_lt, Int32.reduceToInt] at d; omega
theorem c_letter {a : Int32} {M : gMem} (h : pInv M) : wp_OF_letter (fun r M1 => wp_MO_letter (fun r' M2 => r = r' ∧ pInv M2) a M1) a M := by
  obtain ⟨n, hn, h1, h2, h3⟩ := h.2.2.2.1
  refine w_nameCh (fun c d => ⟨fun q => absurd q (by decide), fun _ => ?_⟩) (fun hc => ⟨fun _ => ?_, fun q => absurd rfl q⟩)
  · unfold wp_MO_letter
    try dsimp only
    rw [h1]
    refine ⟨fun q => absurd q (nI_pos (by omega)), fun _ => ⟨fun q => ?_, fun q => ?_⟩⟩
    · simp only [ti_lt, ti_nI (show n < 2 ^ 31 by omega), Int32.reduceToInt] at q
      refine ⟨vp_in_nI (by omega) (by omega), fun M3 e3 M4 e4 => ?_⟩
      rw [nI_clamp (by omega)] at e3
      have g2 : M4 41 20 = nI n := by rw [e4, e3]; exact h2
      have g0 : M3 0 8 = nI n := by rw [e3]; exact h1
      rw [g2]
      rw [g0] at e4
      refine ⟨fun z => ?_, fun _ => ⟨fun z => ?_, fun _ => ⟨fun _ => ⟨vp_in_nI (by omega) (by omega), fun M5 e5 M6 e6 => ⟨rfl, ?_⟩⟩, fun z => ?_⟩⟩⟩
      · simp only [ti_lt, Int32.reduceToInt] at z; omega
      · simp only [ti_lt, Int32.reduceToInt] at z; omega
      · rw [nI_clamp (by omega)] at e5
        have g5 : M5 41 20 = nI n := by rw [e5]; exact g2
        rw [g5] at e6
        have f : fr sDr M M6 := (((show fr sDr M M3 from e3 ▸ fr_upd (Or.inr (Or.inl rfl))).trans (e4 ▸ fr_upd (Or.inl ⟨rfl, rfl⟩))).trans (e5 ▸ fr_upd (Or.inr (Or.inr (Or.inr rfl))))).trans (e6 ▸ fr_upd (Or.inr (Or.inr (Or.inl ⟨rfl, rfl⟩))))
        refine inv_draft f h ⟨n + 1, by omega, ?_, ?_, fun k hk => ?_⟩ ?_
        · rw [e6, e5, e4]
          exact nI_1 n
        · rw [e6]
          exact nI_1 n
        · by_cases hkn : k = n
          · subst hkn
            have q1 : M6 40 k = a := by
              rw [e6, e5, e4, e3]
              simp [va_up, upd, nar_b]
              exact i8_id (by omega) (by omega)
            have q2 : M6 61 k = a := by
              rw [e6, e5]
              simp [va_up, upd]
            rw [q1, q2]
            exact ⟨rfl, c, d⟩
          · have q1 : M6 40 k = M 40 k := by
              rw [e6, e5, e4, e3]
              simp [va_up, upd, hkn]
            have q2 : M6 61 k = M 61 k := by
              rw [e6, e5, e4, e3]
              simp [va_up, upd, hkn]
            rw [q1, q2]
            exact h3 k (by omega)
        · rw [e6]
          refine rFb_up ?_ (by decide)
          rw [e5]
          refine rFb_up ?_ (by decide)
          rw [e4]
          refine rFb_up ?_ (by decide)
          rw [e3]
          exact rFb_upd h.2.2.2.2.2.1 (by rw [nar_b]; exact fit_b)
      · rw [ti_eq, ti_nI (by omega)] at z
        simp only [Int32.reduceToInt] at z
        omega
    · have hn16 : n = 16 := by
        simp only [ti_lt, ti_nI (show n < 2 ^ 31 by omega), Int32.reduceToInt] at q
        omega
      subst hn16
      rw [h2]
      refine ⟨fun z => ⟨rfl, h⟩, fun _ => ⟨fun z => ⟨rfl, h⟩, fun _ => ⟨fun z => absurd rfl z, fun _ => ⟨rfl, h⟩⟩⟩⟩
  · unfold wp_MO_letter
    try dsimp only
    refine ⟨fun _ => ⟨rfl, h⟩, fun c => ⟨fun _ => ⟨rfl, h⟩, fun d => ?_⟩⟩
    exfalso
    simp only [ti_lt, Int32.reduceToInt] at c d
    omega
theorem w_startOf_m {post : Int32 → gMem → Prop} {k n : Nat} {M : gMem} (hn : n ≤ 1024) (hl : M 1 4 = nI n) (hk : k < n) (h : post (M 5 k) M) : wp_CT_startOf_m post (nI k) M := by
  unfold wp_CT_startOf_m
  rw [hl]
  refine ⟨fun d => absurd d (nI_pos (by omega)), fun _ => ⟨fun _ => ⟨vp_in_nI (by omega) (by omega), ?_⟩, fun d => absurd (nI_lt hk (by omega)) d⟩⟩
  rw [nI_clamp (by omega)]
  exact h
/-- the latest start: -1 when there is none -/
theorem w_latest_m {post : Int32 → gMem → Prop} {n : Nat} {M : gMem} (hn : n ≤ 1024) (hl : M 1 4 = nI n) (h0 : n = 0 → post (-1) M) (h1 : ∀ k, n = k + 1 → post (M 5 k) M) : wp_CT_latestStart_m post M := by
  unfold wp_CT_latestStart_m
  rw [hl]
  cases n with
  | zero =>
    have e : nI 0 - (1 : Int32) = -1 := by decide
    rw [e]
    exact ⟨fun _ => h0 rfl, fun c => absurd (by decide) c⟩
  | succ k =>
    rw [nI_pred]
    exact w_startOf_m hn hl (by omega) (h1 k rfl)
theorem even_and {k : Nat} (h : k < 2 ^ 31) : (nI k &&& (1 : Int32)) = nI (k % 2) := by
  have := pk_andN (n := k) (by omega) (m := 1) 1 (by decide)
  simpa using this
theorem even_rem {k : Nat} (h : k < 2 ^ 31) : nI k - nI k / (2 : Int32) * (2 : Int32) = nI (k % 2) := pk_rem (d := 2) h (by omega) (by omega)
theorem c_start {a : Int32} {M : gMem} (h : pInv M) : wp_OF_start (fun r M1 => wp_MO_start (fun r' M2 => r = r' ∧ pInv M2) a M1) a M := by
  obtain ⟨n, hn, h1, h2, h3, h4⟩ := h.1.2.2.1
  have e02 : vp_in (0 : Int32) 2 := by unfold vp_in; decide
  have hc0 : ((0 : Int32)).toNatClampNeg = 0 := rfl
  have h2' : M 46 0 = nI n := h2
  -- the reference refuses
  have bad : (a < 0 ∨ ¬ a.toInt ≤ 2046 ∨ a.toInt % 2 ≠ 0 ∨ n = 1024 ∨ (0 < n ∧ a.toInt ≤ (M 45 (n - 1)).toInt)) → wp_MO_start (fun r' M2 => false = r' ∧ pInv M2) a M := by
    intro hc
    unfold wp_MO_start
    refine ⟨e02, fun x1 ex => ⟨fun _ => ⟨rfl, h⟩, fun c1 => ⟨fun _ => ⟨rfl, h⟩, fun c2 => ⟨fun _ => ⟨rfl, h⟩, fun c3 => ⟨fun _ => ⟨rfl, h⟩, fun c4 => ?_⟩⟩⟩⟩⟩
    rw [hc0, h2'] at ex
    subst ex
    simp only [ti_lt, Int32.reduceToInt] at c1 c2
    obtain ⟨k, hk, rfl⟩ := ti_nat (x := a) (by omega)
    rw [ti_nI hk] at c1 c2 hc
    rw [even_rem hk, show (0 : Int32) = nI 0 from rfl, nI_eq (by omega) (by omega)] at c3
    rw [show (1024 : Int32) = nI 1024 from rfl, nI_eq (by omega) (by omega)] at c4
    refine ⟨fun c5 => ?_, fun c5 => ?_⟩
    · exfalso
      rw [show (0 : Int32) = nI 0 from rfl, nI_leI (by omega) (by omega)] at c5
      rcases hc with hc | hc | hc | hc | hc
      · exact nI_pos hk hc
      · omega
      · omega
      · omega
      · omega
    · rw [show (0 : Int32) = nI 0 from rfl, nI_leI (by omega) (by omega)] at c5
      obtain ⟨n', rfl⟩ : ∃ n', n = n' + 1 := ⟨n - 1, by omega⟩
      rw [nI_pred]
      refine ⟨vp_in_nI (by omega) (by omega), fun c6 => ?_, fun _ => ⟨rfl, h⟩⟩
      rw [nI_clamp (by omega), ti_lt, ti_nI hk] at c6
      exfalso
      rcases hc with hc | hc | hc | hc | hc
      · exact nI_pos hk hc
      · omega
      · omega
      · omega
      · rw [show n' + 1 - 1 = n' by omega] at hc
        omega
  have good : ∀ k, k < 2 ^ 31 → a = nI k → k ≤ 2046 → k % 2 = 0 → n < 1024 → (0 < n → (M 45 (n - 1)).toInt < (k : Int)) → ∀ M4 : gMem, M4 = va_up (va_up M 5 (upd (M 5) n a)) 1 (upd ((va_up M 5 (upd (M 5) n a)) 1) 4 (nI (n + 1))) → wp_MO_start (fun r' M2 => true = r' ∧ pInv M2) a M4 := by
    intro k hk ea hk2 hke hn2 hl M4 e4
    subst ea
    have g46 : M4 46 0 = nI n := by rw [e4]; exact h2'
    have g45 : ∀ j, M4 45 j = M 45 j := fun j => by rw [e4]; rfl
    have fin : ∀ x1, x1 = nI n → wj_MO_start_49 (fun r' M2 => true = r' ∧ pInv M2) (nI k) x1 M4 := by
      intro x1 ex
      subst ex
      unfold wj_MO_start_49
      refine ⟨vp_in_nI (by omega) (by omega), fun M5 e5 => ⟨e02, e02, fun M6 e6 => ⟨rfl, ?_⟩⟩⟩
      rw [nI_clamp (by omega)] at e5
      rw [hc0] at e6
      have g5 : M5 46 0 = nI n := by rw [e5]; exact g46
      rw [g5, nI_1] at e6
      have f : fr (fun c j => (c = 5 ∧ j = n) ∨ (c = 1 ∧ j = 4) ∨ (c = 45 ∧ j = n) ∨ (c = 46 ∧ j = 0)) M M6 := by
        refine (fr.trans ?_ (show fr _ M4 M5 from e5 ▸ fr_upd (Or.inr (Or.inr (Or.inl ⟨rfl, rfl⟩))))).trans (e6 ▸ fr_upd (Or.inr (Or.inr (Or.inr ⟨rfl, rfl⟩))))
        rw [e4]
        exact fr.trans (fr_upd (Or.inl ⟨rfl, rfl⟩)) (fr_upd (Or.inr (Or.inl ⟨rfl, rfl⟩)))
      refine inv_made (f.mono (fun c j q => by unfold sMade; omega)) h ?_ ?_
      · have i1 := h.1
        refine ⟨rSz_e (f.e (by intro c j q; unfold fpZ at q; omega)) i1.1, rBy_e (f.e (by intro c j q; unfold fpD at q; omega)) i1.1 i1.2.1, ?_, rSy_e (f.e (by intro c j q; unfold fpY at q; omega)) i1.2.2.2.1, rRe_e (f.e (by intro c j q; unfold fpE at q; omega)) i1.2.2.2.2⟩
        have q45 : M6 45 n = nI k := by rw [e6, e5]; simp [va_up, upd]
        have q5 : M6 5 n = nI k := by rw [e6, e5, e4]; simp [va_up, upd]
        refine ⟨n + 1, by omega, by rw [e6, e5, e4]; rfl, by rw [e6]; rfl, fun j hj => ?_, fun j hj => ?_⟩
        · by_cases hjn : j = n
          · subst hjn
            show M6 5 j = M6 45 (1024 * 0 + j) ∧ _
            rw [show 1024 * 0 + j = j by omega, q45, q5, ti_nI hk]
            exact ⟨rfl, by omega, by omega, by omega⟩
          · rw [f (1 + 4) j (by omega), f 45 (1024 * 0 + j) (by omega)]
            exact h3 j (by omega)
        · by_cases hjn : j + 1 = n
          · rw [show 1024 * 0 + (j + 1) = n by omega, q45, ti_nI hk, f 45 (1024 * 0 + j) (by omega), show 1024 * 0 + j = n - 1 by omega]
            exact hl (by omega)
          · rw [f 45 (1024 * 0 + j) (by omega), f 45 (1024 * 0 + (j + 1)) (by omega)]
            exact h4 j (by omega)
      · rw [e6]
        refine rFb_up ?_ (by decide)
        rw [e5]
        refine rFb_up ?_ (by decide)
        rw [e4]
        exact rFb_up (rFb_up h.2.2.2.2.2.1 (by decide)) (by decide)
    unfold wp_MO_start
    rw [hc0, g46]
    refine ⟨e02, fun x1 ex => ⟨fun z => absurd z (nI_pos hk), fun _ => ⟨fun z => ?_, fun _ => ⟨fun z => ?_, fun _ => ⟨fun z => ?_, fun _ => ⟨fun _ => fin x1 ex, fun c5 => ?_⟩⟩⟩⟩⟩⟩
    · exfalso; rw [ti_lt, ti_nI hk] at z; simp only [Int32.reduceToInt] at z; omega
    · exfalso; rw [even_rem hk, hke] at z; exact z rfl
    · exfalso; rw [ex, ti_eq, ti_nI (by omega)] at z; simp only [Int32.reduceToInt] at z; omega
    · have hn0 : 0 < n := by
        rw [ex, ti_le, ti_nI (by omega)] at c5
        simp only [Int32.reduceToInt] at c5
        omega
      obtain ⟨n', hn'⟩ : ∃ n', n = n' + 1 := ⟨n - 1, by omega⟩
      have ex' : x1 - (1 : Int32) = nI n' := by rw [ex, hn', nI_pred]
      rw [ex']
      refine ⟨vp_in_nI (by omega) (by omega), fun _ => fin x1 ex, fun z => ?_⟩
      exfalso
      rw [nI_clamp (by omega), g45, ti_lt, ti_nI hk] at z
      have := hl hn0
      rw [show n - 1 = n' by omega] at this
      exact z this
  unfold wp_OF_start
  refine ⟨fun c => bad (Or.inl c), fun c1 => ⟨fun c2 => bad (Or.inr (Or.inl ?_)), fun c2 => ⟨fun c3 => ?_, fun c3 => bad (Or.inr (Or.inr (Or.inl ?_)))⟩⟩⟩
  · simp only [ti_le, Int32.reduceToInt] at c2; omega
  · simp only [ti_lt, ti_le, Int32.reduceToInt] at c1 c2
    obtain ⟨k, hk, rfl⟩ := ti_nat (x := a) (by omega)
    rw [ti_nI hk] at c1 c2
    rw [even_and hk, show (0 : Int32) = nI 0 from rfl, nI_eq (by omega) (by omega)] at c3
    have add : ∀ M2, M2 = M → (0 < n → (M 45 (n - 1)).toInt < (k : Int)) → wp_CT_addStart_m (fun r3 M4 => ((bI r3) = 0 → wp_MO_start (fun r' M2 => false = r' ∧ pInv M2) (nI k) M4) ∧ (¬ (bI r3) = 0 → wp_MO_start (fun r' M2 => true = r' ∧ pInv M2) (nI k) M4)) (nI k) M2 := by
      intro M2 eM hlt
      subst eM
      unfold wp_CT_addStart_m
      rw [h1]
      refine ⟨fun z => absurd z (nI_pos (by omega)), fun _ => ⟨fun z => ?_, fun z => ⟨fun _ => bad (Or.inr (Or.inr (Or.inr (Or.inl ?_)))), fun q => absurd rfl q⟩⟩⟩
      · rw [ti_lt, ti_nI (by omega)] at z
        simp only [Int32.reduceToInt] at z
        refine ⟨vp_in_nI (by omega) (by omega), fun M3 e3 M4 e4 => ⟨fun q => absurd q (by decide), fun _ => good k hk rfl (by omega) c3 (by omega) hlt M4 ?_⟩⟩
        rw [nI_clamp (by omega)] at e3
        have g3 : M3 1 4 = nI n := by rw [e3]; exact h1
        rw [e4, g3, nI_1, e3]
      · rw [ti_lt, ti_nI (by omega)] at z
        simp only [Int32.reduceToInt] at z
        omega
    refine w_latest_m hn h1 (fun hn0 => ⟨fun z => ?_, fun _ => add M rfl (fun z => by omega)⟩) (fun j hj => ?_)
    · exfalso
      rw [ti_le, ti_nI hk] at z
      simp only [Int32.reduceToInt] at z
      omega
    · have e5 : M 5 j = M 45 j := by
        have := (h3 j (by omega)).1
        rwa [show 1024 * 0 + j = j by omega] at this
      refine ⟨fun z => bad (Or.inr (Or.inr (Or.inr (Or.inr ⟨by omega, ?_⟩)))), fun z => add M rfl (fun _ => ?_)⟩
      · rw [e5, ti_le] at z
        rw [show n - 1 = j by omega]
        exact z
      · rw [e5, ti_le, ti_nI hk] at z
        rw [show n - 1 = j by omega]
        omega
  · simp only [ti_lt, ti_le, Int32.reduceToInt] at c1 c2
    obtain ⟨k, hk, rfl⟩ := ti_nat (x := a) (by omega)
    rw [even_and hk, show (0 : Int32) = nI 0 from rfl, nI_eq (by omega) (by omega)] at c3
    rw [ti_nI hk]
    omega
