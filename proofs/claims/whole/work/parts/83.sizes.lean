/-! numbers, missing, lengths: of the reference; where the parts are -/
theorem m_rule {n T E N : Nat} {b : Nat → Fin 256} {M : gMem} {post : Int32 → gMem → Prop} {e : Nat} (S : mS n b T E N M) (L : lM (qp b T N) E M) (Q : qO (qp b T N) E) (he : e < E) (h1 : 1 ≤ e) (H : post (nI (yN b T E (qp b T N) e).1) (tm M (yN b T E (qp b T N) e))) : wp_MO_ruleFault post (nI e) M := by
  have t := S.2.1
  unfold hT at t
  have hq := Q.1 e h1 he
  have l8 := eo_lt (q := qp b T N) (e := E) (p := 8) (by omega)
  have l9 := eo_lt (q := qp b T N) (e := E) (p := 9) (by omega)
  have li := eo_lt (q := qp b T N) (e := E) (p := qp b T N e - 5) (by omega)
  have g8 := L.1 8 (by omega)
  have g9 := L.1 9 (by omega)
  have gi := L.1 (qp b T N e - 5) (by omega)
  have gp := L.2 e h1 he
  unfold yN at H
  have c1 := tSo_e (qp b T N e) (by omega)
  have c2 := tFl_e (qp b T N e) (by omega)
  have c3 := tUn_e (qp b T N e) (by omega)
  generalize hw : yW b T e (qp b T N e) (eo (qp b T N) E 8) (eo (qp b T N) E 9) (eo (qp b T N) E (qp b T N e - 5)) = w at H
  generalize hp : qp b T N e = p at *
  generalize ho8 : eo (qp b T N) E 8 = o8 at *
  generalize ho9 : eo (qp b T N) E 9 = o9 at *
  generalize hoi : eo (qp b T N) E (p - 5) = oi at *
  have bad : w ≠ 10 → wp_MO_spotOf (fun r M1 => wp_MO_fault (fun r5 M6 => post r5 M6) (17 : Int32) r M1) (nI e) (nI w) M := by
    intro hn
    rw [if_neg hn] at H
    exact m_spotF (f := 17) S H
  unfold wp_MO_ruleFault
  rw [nI_clamp (by omega), gp]
  refine ⟨vp_in_nI (by omega) (by omega), fun x1 e1 => ?_⟩
  subst e1
  have h241 : (w = if (nu b T e 9).1 = tUn p then 10 else 9) → wj_MO_ruleFault_241 post (nI e) (nI p) M := by
    intro q
    refine m_told (i := 9) S (m_eachOf (by omega) ?_)
    try dsimp only
    rw [nI_l (by omega)]
    refine ql_eq (fun c => ?_) (fun c => ?_)
    · rw [if_pos c] at q
      rw [if_pos q] at H
      exact H
    · rw [if_neg c] at q
      subst q
      exact bad (by omega)
  have h227 : w = 7 → wj_MO_ruleFault_227 post (nI e) M := fun q => by subst q; exact bad (by omega)
  have h166 : w = 6 → wj_MO_ruleFault_166 post (nI e) M := fun q => by subst q; exact bad (by omega)
  have top : ∀ s : Nat, s < 2 → (s = 1 ↔ (5 ≤ p ∧ p < 8)) → wj_MO_ruleFault_23 post (nI e) (nI p) (nI s) M := by
    intro s hs hsr
    unfold wj_MO_ruleFault_23
    unfold yW at hw
    refine m_told (i := 1) S (m_sortOf (by omega) ?_)
    try dsimp only
    rw [nI_l (by omega)]
    refine ql_eq (fun d1 => ?_) (fun d1 => ?_)
    · rw [if_pos d1] at hw
      refine m_told (i := 2) S (m_flagsOf (by omega) ?_)
      try dsimp only
      rw [nI_l (by omega)]
      refine ql_eq (fun d2 => ?_) (fun d2 => ?_)
      · rw [if_pos d2] at hw
        refine m_told (i := 3) S (ql_eq (b := 0) (fun d3 => ?_) (fun d3 => ?_))
        · rw [if_pos d3] at hw
          rw [cl_8, cl_9, g8, g9]
          have h180 : lkb o8 o9 p (nu b T e 6).1 = true → wj_MO_ruleFault_180 post (nI e) (nI p) (nI s) M := by
            intro lk
            rw [if_pos lk] at hw
            unfold wj_MO_ruleFault_180
            refine q_eq (b := 0) (fun s0 => ?_) (fun s0 => ?_)
            · have nr : ¬ (5 ≤ p ∧ p < 8) := fun z => by have := hsr.mpr z; omega
              unfold wj_MO_ruleFault_196
              refine q_eq (b := 8) (fun p8 => ?_) (fun p8 => m_told (i := 7) S ?_)
              · rw [inb, if_neg nr, if_pos p8, if_pos rfl] at hw
                exact h241 hw.symm
              · rw [inb, if_neg nr, if_neg p8] at hw
                rw [show (0 : Int32).toInt64 = lN 0 from rfl]
                refine ql_ne (fun d7 => ?_) (fun d7 => q_t (by rw [s0]; rfl) ?_)
                · rw [if_neg (by simpa using d7)] at hw
                  exact h227 hw.symm
                · rw [if_pos (by simpa using d7)] at hw
                  exact h241 hw.symm
            · have r : 5 ≤ p ∧ p < 8 := hsr.mp (by omega)
              rw [show nI p - (5 : Int32) = nI (p - 5) from pk_sub (b := 5) (by omega), nI_clamp (by omega), gi]
              refine ⟨vp_in_nI (by omega) (by omega), ?_⟩
              unfold wj_MO_ruleFault_196
              refine q_eq (b := 8) (fun p8 => by omega) (fun p8 => m_told (i := 7) S ?_)
              rw [inb, if_pos r] at hw
              try dsimp only
              rw [nI_l (by omega)]
              refine ql_ne (fun d7 => ?_) (fun d7 => q_eq (b := 0) (fun z => by omega) (fun _ => q_ne (b := 0) (fun z => ?_) (fun z => ?_)))
              · rw [if_neg (by rw [decide_eq_true_iff]; omega)] at hw
                exact h227 hw.symm
              · rw [if_pos (by rw [decide_eq_true_iff]; omega)] at hw
                exact h241 hw.symm
              · rw [if_neg (by rw [decide_eq_true_iff]; omega)] at hw
                exact h227 hw.symm
          refine q_eq (b := 0) (fun s0 => q_ne (b := 8) (fun p8 => ?_) (fun p8 => ⟨in_9, ?_⟩)) (fun s0 => ⟨in_8, ?_⟩)
          · have nr : ¬ (5 ≤ p ∧ p < 8) := fun z => by have := hsr.mpr z; omega
            unfold wj_MO_ruleFault_135
            refine m_told (i := 6) S ?_
            rw [show (0 : Int32).toInt64 = lN 0 from rfl]
            have lk : lkb o8 o9 p (nu b T e 6).1 = decide ((nu b T e 6).1 = 0) := by rw [lkb, if_neg nr, if_neg p8]
            refine ql_ne (b := 0) (fun d6 => h166 ?_) (fun d6 => q_ne (b := 0) (fun z => by omega) (fun _ => q_ne (b := 8) (fun _ => h180 ?_) (fun z => absurd z p8)))
            · rw [lk, if_neg (by rw [decide_eq_true_iff]; exact d6)] at hw
              exact hw.symm
            · rw [lk, decide_eq_true_iff]; exact d6
          · have nr : ¬ (5 ≤ p ∧ p < 8) := fun z => by have := hsr.mpr z; omega
            have lk : lkb o8 o9 p (nu b T e 6).1 = decide ((nu b T e 6).1 ≠ 0 ∧ (nu b T e 6).1 = o9) := by rw [lkb, if_neg nr, if_pos p8]
            unfold wj_MO_ruleFault_135 wj_MO_ruleFault_161
            rw [nI_l (by omega)]
            refine m_told (i := 6) S (ql_ne (fun d6 => h166 ?_) (fun d6 => q_ne (b := 0) (fun z => by omega) (fun _ => q_ne (b := 8) (fun z => absurd p8 z) (fun _ => q_ne (b := 0) (fun z => h180 ?_) (fun z => h166 ?_)))))
            · rw [lk, if_neg (by rw [decide_eq_true_iff]; omega)] at hw
              exact hw.symm
            · rw [lk, decide_eq_true_iff]; omega
            · rw [lk, if_neg (by rw [decide_eq_true_iff]; omega)] at hw
              exact hw.symm
          · have r : 5 ≤ p ∧ p < 8 := hsr.mp (by omega)
            have lk : lkb o8 o9 p (nu b T e 6).1 = decide ((nu b T e 6).1 ≠ 0 ∧ (nu b T e 6).1 = o8) := by rw [lkb, if_pos r]
            unfold wj_MO_ruleFault_135 wj_MO_ruleFault_161
            rw [nI_l (by omega)]
            refine m_told (i := 6) S (ql_ne (fun d6 => h166 ?_) (fun d6 => q_ne (b := 0) (fun _ => q_ne (b := 0) (fun z => h180 ?_) (fun z => h166 ?_)) (fun z => by omega)))
            · rw [lk, if_neg (by rw [decide_eq_true_iff]; omega)] at hw
              exact hw.symm
            · rw [lk, decide_eq_true_iff]; omega
            · rw [lk, if_neg (by rw [decide_eq_true_iff]; omega)] at hw
              exact hw.symm
        · rw [if_neg d3] at hw
          subst hw
          exact bad (by omega)
      · rw [if_neg d2] at hw
        subst hw
        exact bad (by omega)
    · rw [if_neg d1] at hw
      subst hw
      exact bad (by omega)
  refine q_lt (b := 5) (fun c => top 0 (by omega) (by omega)) (fun c => q_le (a := 8) (fun d => top 0 (by omega) (by omega)) (fun d => top 1 (by omega) (by omega)))
theorem m_bytes {n T E N : Nat} {b : Nat → Fin 256} {M : gMem} {post : Int64 → gMem → Prop} {p o : Nat} (S : mS n b T E N M) (hp : p < 11) (ho : M 73 p = nI o) (hE : o < E) (H : post (lN (ln b T o).1) M) : wp_MO_bytesOf post (nI p) M := by
  have t := S.2.1
  unfold hT at t
  unfold wp_MO_bytesOf
  rw [nI_clamp (by omega), ho]
  have i11 : vp_in (nI p) 11 := vp_in_nI hp (by omega)
  unfold ln at H
  refine ⟨i11, q_ne (b := 0) (fun c => ⟨i11, m_told (i := 5) S ?_⟩) (fun c => ?_)⟩
  · rw [if_neg c] at H; exact H
  · rw [if_pos c] at H; exact H
theorem m_from {n T E N : Nat} {b : Nat → Fin 256} {M : gMem} {post : Int32 → gMem → Prop} {p o : Nat} (S : mS n b T E N M) (hp : p < 11) (ho : M 73 p = nI o) (hE : o < E) (H : post (nI (bg b T o).1) M) : wp_MO_from post (nI p) M := by
  have t := S.2.1
  unfold hT at t
  unfold wp_MO_from
  rw [nI_clamp (by omega), ho]
  have i11 : vp_in (nI p) 11 := vp_in_nI hp (by omega)
  unfold bg at H
  refine ⟨i11, q_ne (b := 0) (fun c => ⟨i11, m_told (i := 4) S ?_⟩) (fun c => ?_)⟩
  · rw [if_neg c] at H; try dsimp only
    rw [lN_i]; exact H
  · rw [if_pos c] at H; exact H
theorem m_str20 {n T E N : Nat} {b : Nat → Fin 256} {M : gMem} {post : Int32 → gMem → Prop} {o : Nat} (S : mS n b T E N M) (A : aOk n b T E) (ho : M 73 9 = nI o) (hE : o < E) (h1 : 1 ≤ o) (h3 : (nu b T o 1).1 = 3) (H : post (nI (yS b T 20 o).1) (tm M (yS b T 20 o))) : wp_MO_bytesOf (fun r9 M10 => ∀ x11 : Int32, x11 = r9.toInt32 → (¬ x11 = 0 → wp_MO_from (fun r12 M13 => vp_in r12 8192 ∧ ((M13 62 (r12).toNatClampNeg) = 0 → wp_MO_from (fun r14 M15 => vp_in ((r14 + x11) - (1 : Int32)) 8192 ∧ ((M15 62 ((r14 + x11) - (1 : Int32)).toNatClampNeg) = 0 → post (0 : Int32) M15) ∧ (¬ (M15 62 ((r14 + x11) - (1 : Int32)).toNatClampNeg) = 0 → wp_MO_from (fun r16 M17 => wp_MO_fault (fun r18 M19 => post r18 M19) (20 : Int32) ((r16 + x11) - (1 : Int32)) M17) (9 : Int32) M15)) (9 : Int32) M13) ∧ (¬ (M13 62 (r12).toNatClampNeg) = 0 → wp_MO_from (fun r20 M21 => wp_MO_fault (fun r22 M23 => post r22 M23) (20 : Int32) r20 M21) (9 : Int32) M13)) (9 : Int32) M10) ∧ (x11 = 0 → vp_in (9 : Int32) 11 ∧ wp_MO_spotOf (fun r24 M25 => wp_MO_fault (fun r26 M27 => post r26 M27) (20 : Int32) r24 M25) (M10 73 ((9 : Int32)).toNatClampNeg) (5 : Int32) M10)) (9 : Int32) M := by
  have t := S.2.1
  unfold hT at t
  have a := (A o h1 hE).1
  unfold yS at H
  rw [if_pos h3] at H
  have el : (ln b T o).1 = (nu b T o 5).1 := by rw [ln, if_neg (by omega)]
  have eb : (bg b T o).1 = (nu b T o 4).1 := by rw [bg, if_neg (by omega)]
  refine m_bytes (p := 9) S (by omega) ho hE (fun x11 e11 => ?_)
  rw [lN_i, el] at e11
  subst e11
  refine q_ne (b := 0) (fun c => m_from (p := 9) S (by omega) ho hE ?_) (fun c => ⟨in_9, ?_⟩)
  · rw [if_neg c] at H
    try dsimp only
    rw [eb, m_f S.1 (by omega)]
    refine ⟨m_in S.1 (by omega), q_eq (b := 0) (fun d => m_from (p := 9) S (by omega) ho hE ?_) (fun d => m_from (p := 9) S (by omega) ho hE ?_)⟩
    · rw [if_pos d] at H
      try dsimp only
      rw [eb, nI_add, show nI ((nu b T o 4).1 + (nu b T o 5).1) - (1 : Int32) = nI ((nu b T o 4).1 + (nu b T o 5).1 - 1) from pk_sub (b := 1) (by omega), m_f S.1 (by omega)]
      refine ⟨m_in S.1 (by omega), q_eq (b := 0) (fun f => ?_) (fun f => m_from (p := 9) S (by omega) ho hE ?_)⟩
      · rw [if_pos f] at H; exact H
      · rw [if_neg f] at H
        try dsimp only
        rw [eb, nI_add, show nI ((nu b T o 4).1 + (nu b T o 5).1) - (1 : Int32) = nI ((nu b T o 4).1 + (nu b T o 5).1 - 1) from pk_sub (b := 1) (by omega)]
        exact m_fault (f := 20) H
    · rw [if_neg d] at H
      try dsimp only
      rw [eb]
      exact m_fault (f := 20) H
  · rw [if_pos c] at H
    rw [cl_9, ho]
    exact m_spotF (f := 20) (i := 5) S H
theorem m_lens {n T E N : Nat} {b : Nat → Fin 256} {M : gMem} {post : Int32 → gMem → Prop} (S : mS n b T E N M) (L : lM (qp b T N) E M) (Q : qO (qp b T N) E) (A : aOk n b T E) (h1 : 1 ≤ eo (qp b T N) E 9) (h3 : (nu b T (eo (qp b T N) E 9) 1).1 = 3) : ∀ d e, e + d = E → 1 ≤ e → rs b T (qp b T N) e ≤ 300 → post (nI (sq (fs (yG b T (qp b T N)) d e) (yS b T 20 (eo (qp b T N) E 9))).1) (tm M (sq (fs (yG b T (qp b T N)) d e) (yS b T 20 (eo (qp b T N) E 9)))) → wl_MO_sizeFaults_59 post (d + 1) (lN (rs b T (qp b T N) e)) (nI e) M := by
  have t := S.2.1
  unfold hT at t
  intro d
  induction d with
  | zero =>
    intro e he h1 hr H
    unfold wl_MO_sizeFaults_59
    rw [S.2.2.2]
    exact q_le (fun c => m_str20 S A (L.1 9 (by omega)) (eo_lt (by omega)) (by omega) h3 H) (fun c => by omega)
  | succ d ih =>
    intro e he h1 hr H
    unfold wl_MO_sizeFaults_59
    have hq := Q.1 e h1 (by omega)
    have gp := L.2 e h1 (by omega)
    have hr2 := rs_lt (b := b) (T := T) (q := qp b T N) (e + 1)
    rw [S.2.2.2, nI_clamp (by omega), gp]
    rw [sq_fs] at H
    have er : rs b T (qp b T N) (e + 1) = rs b T (qp b T N) e + if 1 ≤ e ∧ 5 ≤ qp b T N e ∧ qp b T N e < 8 then (nu b T e 5).1 / 12 else 0 := rfl
    have good : lok (qp b T N e) (nu b T e 5).1 → rs b T (qp b T N) (e + 1) ≤ 300 → wj_MO_sizeFaults_274 post (wl_MO_sizeFaults_59 post (d + 1)) (lN (rs b T (qp b T N) (e + 1))) (nI e) (1 : Int32) M := by
      intro a1 a2
      rw [yG_0 a1 a2, if_pos rfl] at H
      exact q_f' (by decide) (q_x (by rw [nI_1]; exact ih (e + 1) (by omega) (by omega) a2 H))
    have bad : (¬ lok (qp b T N e) (nu b T e 5).1 ∨ ¬ rs b T (qp b T N) (e + 1) ≤ 300) → wj_MO_sizeFaults_274 post (wl_MO_sizeFaults_59 post (d + 1)) (lN (rs b T (qp b T N) (e + 1))) (nI e) (0 : Int32) M := by
      intro a1
      rw [yG_1 a1, if_neg (by simp)] at H
      exact q_t' rfl (m_spotF (f := 19) (i := 5) S H)
    have hl : lok (qp b T N e) (nu b T e 5).1 ↔ (if 5 ≤ qp b T N e ∧ qp b T N e < 8 then (nu b T e 5).1 % 12 = 0 else if qp b T N e = 3 then (nu b T e 5).1 ≤ 4096 else if qp b T N e = 4 then (nu b T e 5).1 % 2 = 0 ∧ (nu b T e 5).1 ≤ 2048 else if qp b T N e = 8 then (nu b T e 5).1 % 16 = 0 ∧ 16 ≤ (nu b T e 5).1 ∧ (nu b T e 5).1 ≤ 1616 else if 3 < qp b T N e then True else (nu b T e 5).1 ≤ 2048) := Iff.rfl
    generalize hp : qp b T N e = p at *
    generalize hm : (nu b T e 5).1 = m at *
    have hmb : m < 4294967296 := by rw [← hm]; exact (nu b T e 5).2
    have e2 : lN m - lN m / (2 : Int64) * (2 : Int64) = lN (m % 2) := pk_lRem (b := 2) (by omega) (by omega) (by omega)
    have e16 : lN m - lN m / (16 : Int64) * (16 : Int64) = lN (m % 16) := pk_lRem (b := 16) (by omega) (by omega) (by omega)
    have e12 : lN m - lN m / (12 : Int64) * (12 : Int64) = lN (m % 12) := pk_lRem (b := 12) (by omega) (by omega) (by omega)
    have d12 : lN m / (12 : Int64) = lN (m / 12) := pk_lDiv (b := 12) (by omega) (by omega) (by omega)
    have non : ¬ (5 ≤ p ∧ p < 8) → wj_MO_sizeFaults_100 post (wl_MO_sizeFaults_59 post (d + 1)) (lN (rs b T (qp b T N) e)) (nI e) (nI p) (lN m) M := by
      intro nr
      rw [if_neg (fun z => nr z.2)] at er
      rw [if_neg nr] at hl
      have hr3 : rs b T (qp b T N) (e + 1) ≤ 300 := by omega
      unfold wj_MO_sizeFaults_100 wj_MO_sizeFaults_101 wj_MO_sizeFaults_119
      refine q_t rfl (fun x31 e31 => ?_)
      rw [show lN (rs b T (qp b T N) e) + (0 : Int64) = lN (rs b T (qp b T N) (e + 1)) by rw [er]; exact lN_add _ 0] at e31
      subst e31
      rw [e2, e16]
      refine q_le (a := 3) (fun c1 => q_ne (b := 3) (fun c2 => q_ne (b := 4) (fun c3 => q_t rfl (q_ne (b := 8) (fun c4 => ?_) (fun c4 => ?_))) (fun c3 => ?_)) (fun c2 => ?_)) (fun c1 => ?_)
      · rw [if_neg c2, if_neg c3, if_neg c4, if_pos (by omega)] at hl
        exact good (hl.mpr trivial) hr3
      · rw [if_neg c2, if_neg c3, if_pos c4] at hl
        exact ql_ne (b := 0) (fun f => bad (Or.inl (by rw [hl]; omega))) (fun f => ql_lt (b := 16) (fun g => bad (Or.inl (by rw [hl]; omega))) (fun g => ql_lt (a := 1616) (fun h => bad (Or.inl (by rw [hl]; omega))) (fun h => good (by rw [hl]; omega) hr3)))
      · rw [if_neg c2, if_pos c3] at hl
        exact ql_lt (a := 2048) (fun f => bad (Or.inl (by rw [hl]; omega))) (fun f => ql_ne (b := 0) (fun g => bad (Or.inl (by rw [hl]; omega))) (fun g => good (by rw [hl]; omega) hr3))
      · rw [if_pos c2] at hl
        exact ql_lt (a := 4096) (fun f => bad (Or.inl (by rw [hl]; omega))) (fun f => good (by rw [hl]; omega) hr3)
      · rw [if_neg (by omega), if_neg (by omega), if_neg (by omega), if_neg (by omega)] at hl
        exact ql_lt (a := 2048) (fun f => bad (Or.inl (by rw [hl]; omega))) (fun f => good (by rw [hl]; omega) hr3)
    refine q_le (fun c => by omega) (fun c => ⟨vp_in_nI (by omega) (by omega), fun x28 e28 => ?_⟩)
    subst e28
    refine m_told (i := 5) S ?_
    try dsimp only
    rw [hm]
    refine q_lt (b := 5) (fun c1 => non (by omega)) (fun c1 => q_le (a := 8) (fun c2 => non (by omega)) (fun c2 => ?_))
    rw [if_pos ⟨h1, c1, c2⟩] at er
    rw [if_pos ⟨c1, c2⟩] at hl
    unfold wj_MO_sizeFaults_101 wj_MO_sizeFaults_119
    refine q_f (by decide) (fun x31 e31 => ?_)
    rw [d12, lN_add, ← er] at e31
    subst e31
    rw [e12]
    exact q_le (a := 3) (fun _ => q_ne (b := 3) (fun _ => q_ne (b := 4) (fun _ => q_f (by decide) (ql_ne (b := 0) (fun f => bad (Or.inl (by rw [hl]; exact f))) (fun f => ql_lt (a := 300) (fun g => bad (Or.inr (by omega))) (fun g => good (by rw [hl]; exact f) g)))) (fun z => by omega)) (fun z => by omega)) (fun z => by omega)
