/-! the first half of a reading, of the reference -/
theorem m_ent0 {n T E N : Nat} {b : Nat → Fin 256} {M : gMem} {post : Int32 → gMem → Prop} (S : mS n b T E N M) (H : post (nI (fs (yZ b T) 10 0).1) (tm M (fs (yZ b T) 10 0))) : wp_MO_entryFault post (nI 0) M := by
  have t := S.2.1
  unfold hT at t
  have go : ∀ d k, k + d = 10 → post (nI (fs (yZ b T) d k).1) (tm M (fs (yZ b T) d k)) → wl_MO_entryFault_2 post (d + 1) (nI 0) (nI k) M := by
    intro d
    induction d with
    | zero =>
      intro k hk H
      unfold wl_MO_entryFault_2 wj_MO_entryFault_42
      exact q_le (a := 10) (fun c => q_t' rfl H) (fun c => by omega)
    | succ d ih =>
      intro k hk H
      unfold wl_MO_entryFault_2
      unfold fs at H
      refine q_le (a := 10) (fun c => by omega) (fun c => q_t' rfl (m_told (e := 0) S (ql_eq (b := 0) (fun z => q_x ?_) (fun z => ?_))))
      · rw [yZ, if_pos z, if_pos rfl] at H
        rw [nI_1]
        exact ih (k + 1) (by omega) H
      · rw [yZ, if_neg z, if_neg (by simp)] at H
        exact m_spotF (f := 11) (e := 0) S H
  exact ⟨11, go 10 0 (by omega) H⟩
theorem m_entE {n T E N : Nat} {b : Nat → Fin 256} {M : gMem} {post : Int32 → gMem → Prop} {e : Nat} (S : mS n b T E N M) (he : e < E) (he1 : 1 ≤ e) (H : post (nI (yE n b T E e).1) (tm M (yE n b T E e))) : wp_MO_entryFault post (nI e) M := by
  have t := S.2.1
  unfold hT at t
  refine ⟨1, ?_⟩
  unfold wl_MO_entryFault_2
  exact q_f (by decide) (q_ne (b := 0) (fun _ => m_entry S he he1 H) (fun z => by omega))
/-! a fault goes through -/
theorem t88 {post : Int32 → gMem → Prop} {M : gMem} {f : Nat} (hf : f ≠ 0) (hl : f < 64) (h : post (nI f) M) : wj_MO_allFaults_88 post (nI f) M := q_eq (b := 0) (fun z => absurd z hf) (fun _ => h)
theorem t76 {post : Int32 → gMem → Prop} {M : gMem} {f : Nat} (hf : f ≠ 0) (hl : f < 64) (h : post (nI f) M) : wj_MO_allFaults_76 post (nI f) M := q_eq (b := 0) (fun z => absurd z hf) (fun _ => t88 hf hl h)
theorem t52 {post : Int32 → gMem → Prop} {M : gMem} {f k d : Nat} (hf : f ≠ 0) (hl : f < 64) (h : post (nI f) M) : wl_MO_allFaults_52 post (d + 1) (nI f) (nI k) M := by
  unfold wl_MO_allFaults_52
  exact ⟨fun _ => t76 hf hl h, fun _ => q_ne (b := 0) (fun _ => t76 hf hl h) (fun z => absurd z hf)⟩
theorem t37 {post : Int32 → gMem → Prop} {M : gMem} {f : Nat} (hf : f ≠ 0) (hl : f < 64) (h : post (nI f) M) : wj_MO_allFaults_37 post (nI f) M := q_eq (b := 0) (fun z => absurd z hf) (fun _ => ⟨1, t52 (k := 1) hf hl h⟩)
theorem t13 {post : Int32 → gMem → Prop} {M : gMem} {f k d : Nat} (hf : f ≠ 0) (hl : f < 64) (h : post (nI f) M) : wl_MO_allFaults_13 post (d + 1) (nI f) (nI k) M := by
  unfold wl_MO_allFaults_13
  exact ⟨fun _ => t37 hf hl h, fun _ => q_ne (b := 0) (fun _ => t37 hf hl h) (fun z => absurd z hf)⟩
theorem m_sizes {n T E N : Nat} {b : Nat → Fin 256} {M : gMem} {post : Int32 → gMem → Prop} (S : mS n b T E N M) (hN : (v2 b 50).1 = N) (L : lM (qp b T N) E M) (Q : qO (qp b T N) E) (A : aOk n b T E) (h3 : eo (qp b T N) E 9 ≠ 0 → (nu b T (eo (qp b T N) E 9) 1).1 = 3) (H : post (nI (xSz b T E N).1) (tm M (xSz b T E N))) : wp_MO_sizeFaults post M := by
  have t := S.2.1
  unfold hT at t
  have l8 := eo_lt (q := qp b T N) (e := E) (p := 8) (by omega)
  have l9 := eo_lt (q := qp b T N) (e := E) (p := 9) (by omega)
  have l10 := eo_lt (q := qp b T N) (e := E) (p := 10) (by omega)
  unfold wp_MO_sizeFaults
  rw [cl_8, cl_9, cl_10, L.1 8 (by omega), L.1 9 (by omega), L.1 10 (by omega)]
  unfold xSz yMi at H
  refine ⟨in_8, q_eq (b := 0) (fun c => ?_) (fun c => ⟨in_9, q_eq (b := 0) (fun d => ?_) (fun d => ⟨in_10, q_eq (b := 0) (fun e => ?_) (fun e => ⟨in_10, m_read2 (p := 50) S.1 ?_⟩)⟩)⟩)⟩
  · rw [if_pos c, sq_n (by simp)] at H; exact m_fault (f := 18) (p := 50) H
  · rw [if_neg c, if_pos d, sq_n (by simp)] at H; exact m_fault (f := 18) (p := 50) H
  · rw [if_neg c, if_neg d, if_pos e, sq_n (by simp)] at H; exact m_fault (f := 18) (p := 50) H
  · try dsimp only
    rw [hN]
    refine q_eq (fun f => ?_) (fun f => ?_)
    · rw [if_neg c, if_neg d, if_neg e, if_pos f, sq_t rfl] at H
      exact ⟨E - 1 + 1, m_lens S L Q A (by omega) (h3 d) (E - 1) 1 (by omega) (by omega) (by simp [rs]) H⟩
    · rw [if_neg c, if_neg d, if_neg e, if_neg f, sq_n (by simp)] at H; exact m_fault (f := 18) (p := 50) H
theorem m_rules {n T E N : Nat} {b : Nat → Fin 256} {M : gMem} {post : Int32 → gMem → Prop} (S : mS n b T E N M) (L : lM (qp b T N) E M) (Q : qO (qp b T N) E) : ∀ d e, e + d = E → 1 ≤ e → ((fs (yN b T E (qp b T N)) d e).1 = 0 → wj_MO_allFaults_76 post (0 : Int32) M) → ((fs (yN b T E (qp b T N)) d e).1 ≠ 0 → post (nI (fs (yN b T E (qp b T N)) d e).1) (tm M (fs (yN b T E (qp b T N)) d e))) → wl_MO_allFaults_52 post (d + 1) (0 : Int32) (nI e) M := by
  have t := S.2.1
  unfold hT at t
  intro d
  induction d with
  | zero =>
    intro e he h1 H1 H2
    unfold wl_MO_allFaults_52
    rw [S.2.2.2]
    exact q_le (fun c => H1 rfl) (fun c => by omega)
  | succ d ih =>
    intro e he h1 H1 H2
    unfold wl_MO_allFaults_52
    rw [S.2.2.2]
    unfold fs at H1 H2
    have hb := yN_b (b := b) (T := T) (E := E) (q := qp b T N) (e := e)
    refine q_le (fun c => by omega) (fun c => q_t' rfl (m_rule S L Q (by omega) h1 (q_x ?_)))
    rw [nI_1]
    by_cases z : (yN b T E (qp b T N) e).1 = 0
    · rw [if_pos z] at H1 H2
      rw [z, tm_0 z]
      exact ih (e + 1) (by omega) (by omega) H1 H2
    · rw [if_neg z] at H2
      exact t52 z hb (H2 z)
theorem m_ents {n T E N : Nat} {b : Nat → Fin 256} {M : gMem} {post : Int32 → gMem → Prop} (S : mS n b T E N M) : ∀ d e, e + d = E → 1 ≤ e → ((fs (yE n b T E) d e).1 = 0 → wj_MO_allFaults_37 post (0 : Int32) M) → ((fs (yE n b T E) d e).1 ≠ 0 → post (nI (fs (yE n b T E) d e).1) (tm M (fs (yE n b T E) d e))) → wl_MO_allFaults_13 post (d + 1) (0 : Int32) (nI e) M := by
  have t := S.2.1
  unfold hT at t
  intro d
  induction d with
  | zero =>
    intro e he h1 H1 H2
    unfold wl_MO_allFaults_13
    rw [S.2.2.2]
    exact q_le (fun c => H1 rfl) (fun c => by omega)
  | succ d ih =>
    intro e he h1 H1 H2
    unfold wl_MO_allFaults_13
    rw [S.2.2.2]
    unfold fs at H1 H2
    have hb := yE_lt (n := n) (b := b) (T := T) (E := E) (e := e)
    refine q_le (fun c => by omega) (fun c => q_t' rfl (m_entE S (by omega) h1 (q_x ?_)))
    rw [nI_1]
    by_cases z : (yE n b T E e).1 = 0
    · rw [if_pos z] at H1 H2
      rw [z, tm_0 z]
      exact ih (e + 1) (by omega) (by omega) H1 H2
    · rw [if_neg z] at H2
      exact t13 z hb (H2 z)
theorem m_dir2 {n T E N : Nat} {b : Nat → Fin 256} {M : gMem} {post : Int32 → gMem → Prop} (S : mS n b T E N M) (R : rTi M) (hN : (v2 b 50).1 = N) (H0 : (xD2 n b T E N).1 ≠ 0 → ∀ M', rM M M' (xD2 n b T E N) → post (nI (xD2 n b T E N).1) M') (H1 : (xD2 n b T E N).1 = 0 → ∀ M', fr sM M M' → mS n b T E N M' → lM (qp b T N) E M' → ∃ n9 : Nat, wl_MO_allFaults_97 post n9 (0 : Int32) (0 : Int32) M') : ∃ n9 : Nat, wl_MO_allFaults_13 post n9 (0 : Int32) (0 : Int32) M := by
  have t := S.2.1
  unfold hT at t
  refine ⟨E + 1, ?_⟩
  unfold wl_MO_allFaults_13
  rw [S.2.2.2]
  refine q_le (b := 0) (fun c => by omega) (fun c => q_t' rfl (m_ent0 S (q_x ?_)))
  rw [show (0 : Int32) + (1 : Int32) = nI 1 from rfl]
  have b0 : (fs (yZ b T) 10 0).1 < 64 := fs_b fun j a1 a2 => by unfold yZ; split <;> simp
  have b1 : (fs (yE n b T E) (E - 1) 1).1 < 64 := fs_b fun j a1 a2 => yE_lt
  have b2 : (xNa b T E N).1 < 64 := sq_b (yS_b (by omega)) xLb_b
  have b3 := xNu_b (b := b) (T := T) (E := E) (N := N)
  have b4 : (xSz b T E N).1 < 64 := sq_b yMi_b (sq_b xLe_b (yS_b (by omega)))
  have hE : E = (E - 1) + 1 := by omega
  by_cases c1 : (fs (yZ b T) 10 0).1 = 0
  · rw [c1, tm_0 c1]
    have x1 : xEn n b T E = fs (yE n b T E) (E - 1) 1 := sq_t c1
    have : wl_MO_allFaults_13 post ((E - 1) + 1) (0 : Int32) (nI 1) M := by
      refine m_ents S (E - 1) 1 (by omega) (by omega) (fun c2 => ?_) (fun c2 => ?_)
      · have x2 : xD2 n b T E N = sq (xNa b T E N) (sq (xNu b T E N) (xSz b T E N)) := by rw [xD2, x1, sq_t c2]
        rw [x2] at H0 H1
        have A : aOk n b T E := aOk_of (by rw [x1]; exact c2)
        refine q_t rfl (m_names S R hN A (fun M1 f1 a1 a2 => ?_))
        have f1' : fr sM M M1 := f1.mono (fun c j q => by unfold sN at q; unfold sM; omega)
        by_cases c3 : (xNa b T E N).1 = 0
        · rw [sq_t c3] at H0 H1
          have L := a1 c3
          have Q := qO_of (sq_0 c3).2
          have S1 := mS_N f1 S
          rw [c3]
          refine ⟨E - 1 + 1, m_rules S1 L Q (E - 1) 1 (by omega) (by omega) (fun c4 => ?_) (fun c4 => ?_)⟩
          · have c4' : (xNu b T E N).1 = 0 := c4
            rw [sq_t c4'] at H0 H1
            refine q_t rfl (m_sizes S1 hN L Q A (fun o9 => ?_) ?_)
            · have h5 := eo_in o9
              have := yW_1 (yN_0 (fs_0 c4 _ h5.1 (by omega)))
              rw [h5.2.2] at this
              exact this
            · refine q_eq (b := 0) (fun c5 => ?_) (fun c5 => H0 c5 _ ⟨f1'.trans tm_rM.1, tm_rM.2⟩)
              rw [c5, tm_0 c5]
              exact H1 c5 M1 f1' S1 L
          · rw [sq_n (show (xNu b T E N).1 ≠ 0 from c4)] at H0
            exact H0 c4 _ ⟨f1'.trans tm_rM.1, tm_rM.2⟩
        · rw [sq_n c3] at H0
          exact ⟨1, t52 (k := 1) c3 b2 (H0 c3 M1 ⟨f1', a2⟩)⟩
      · have x2 : xD2 n b T E N = fs (yE n b T E) (E - 1) 1 := by rw [xD2, x1, sq_n c2]
        rw [x2] at H0
        exact H0 c2 _ tm_rM
    rw [← hE] at this
    exact this
  · have x1 : xEn n b T E = fs (yZ b T) 10 0 := sq_n c1
    rw [xD2, x1, sq_n c1] at H0
    rw [hE]
    exact t13 c1 b0 (H0 c1 _ tm_rM)
theorem m_dir {n : Nat} {b : Nat → Fin 256} {M : gMem} {post : Int32 → gMem → Prop} (V : rV n b M) (R : rTi M) (H0 : (xD n b).1 ≠ 0 → ∀ M', rM M M' (xD n b) → post (nI (xD n b).1) M') (H1 : (xD n b).1 = 0 → ∀ M', fr sM M M' → mS n b (v4 b 32).1 (v2 b 48).1 (v2 b 50).1 M' → lM (qp b (v4 b 32).1 (v2 b 50).1) (v2 b 48).1 M' → ∃ n9 : Nat, wl_MO_allFaults_97 post n9 (0 : Int32) (0 : Int32) M') : wp_MO_allFaults post M := by
  have h8 := V.1
  have b0 : (xHd n b).1 < 64 := sq_b xMk_b xH3_b
  unfold xD at H0 H1
  refine m_head V (fun M1 a1 a2 => q_eq (b := 0) (fun c => ?_) (fun c => ?_))
  · rw [sq_t c] at H0 H1
    have ok := hd_ok c
    have d := a2 c
    rw [c]
    exact m_dir2 ⟨rV_M a1.1 V, ⟨by omega, by omega, by omega, by omega, by omega, by omega, by omega⟩, d.1, d.2⟩ (rTi_fr a1.1 (by unfold sM; omega) (by unfold sM; omega) R) rfl (fun z M2 r => H0 z M2 ⟨a1.1.trans r.1, r.2⟩) (fun z M2 f => H1 z M2 (a1.1.trans f))
  · rw [sq_n c] at H0
    exact H0 c M1 a1
