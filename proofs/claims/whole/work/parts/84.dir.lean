/-! the first half of a reading, put together -/
theorem fs_b {g : Nat → Nat × Nat} : ∀ {d k : Nat}, (∀ j, k ≤ j → j < k + d → (g j).1 < 64) → (fs g d k).1 < 64 := by
  intro d
  induction d with
  | zero => intro k _; unfold fs; simp
  | succ d ih =>
    intro k h
    unfold fs
    split
    · exact ih (fun j a1 a2 => h j (by omega) (by omega))
    · exact h k (by omega) (by omega)
theorem sq_b {x y : Nat × Nat} (hx : x.1 < 64) (hy : y.1 < 64) : (sq x y).1 < 64 := by
  unfold sq
  split
  · exact hy
  · exact hx
theorem xMk_b {n : Nat} {b : Nat → Fin 256} : (xMk n b).1 < 64 := by
  unfold xMk
  split
  · simp
  · refine sq_b (fs_b fun j a1 a2 => ?_) (sq_b (fs_b fun j a1 a2 => ?_) (sq_b (fs_b fun j a1 a2 => ?_) ?_))
    · unfold yM1; split <;> simp
    · unfold yM2; split
      · simp
      · show j - 1 < 64; omega
    · unfold yM3; split <;> simp
    · unfold xM4; repeat' split
      all_goals simp
theorem xH3_b {n : Nat} {b : Nat → Fin 256} : (xH3 n b).1 < 64 := by
  unfold xH3
  repeat' split
  all_goals simp
theorem xEn_b {n : Nat} {b : Nat → Fin 256} {T E : Nat} : (xEn n b T E).1 < 64 := by
  refine sq_b (fs_b fun j a1 a2 => ?_) (fs_b fun j a1 a2 => yE_lt)
  unfold yZ; split <;> simp
theorem yS_b {b : Nat → Fin 256} {T f e : Nat} (hf : f < 64) : (yS b T f e).1 < 64 := by
  unfold yS
  repeat' split
  all_goals simp [hf]
theorem xLb_b {b : Nat → Fin 256} {T E N : Nat} : (xLb b T E N).1 < 64 := by
  refine fs_b fun j a1 a2 => ?_
  unfold yL
  repeat' split
  all_goals simp
theorem yN_b {b : Nat → Fin 256} {T E : Nat} {q : Nat → Nat} {e : Nat} : (yN b T E q e).1 < 64 := by
  unfold yN
  split <;> simp
theorem xNu_b {b : Nat → Fin 256} {T E N : Nat} : (xNu b T E N).1 < 64 := fs_b fun j a1 a2 => yN_b
theorem yMi_b {o8 o9 o10 N : Nat} : (yMi o8 o9 o10 N).1 < 64 := by
  unfold yMi
  repeat' split
  all_goals simp
theorem yG_b {b : Nat → Fin 256} {T : Nat} {q : Nat → Nat} {e : Nat} : (yG b T q e).1 < 64 := by
  unfold yG
  repeat' split
  all_goals simp
theorem xLe_b {b : Nat → Fin 256} {T E N : Nat} : (xLe b T E N).1 < 64 := fs_b fun j a1 a2 => yG_b
def xSz (b : Nat → Fin 256) (T E N : Nat) : Nat × Nat := sq (yMi (eo (qp b T N) E 8) (eo (qp b T N) E 9) (eo (qp b T N) E 10) N) (sq (xLe b T E N) (yS b T 20 (eo (qp b T N) E 9)))
def xD2 (n : Nat) (b : Nat → Fin 256) (T E N : Nat) : Nat × Nat := sq (xEn n b T E) (sq (xNa b T E N) (sq (xNu b T E N) (xSz b T E N)))
def xD (n : Nat) (b : Nat → Fin 256) : Nat × Nat := sq (xHd n b) (xD2 n b (v4 b 32).1 (v2 b 48).1 (v2 b 50).1)
theorem sq_t {x y : Nat × Nat} (h : x.1 = 0) : sq x y = y := if_pos h
theorem sq_n {x y : Nat × Nat} (h : x.1 ≠ 0) : sq x y = x := if_neg h
/-! the class's -/
def al (b : Nat → Fin 256) (T o : Nat) : Nat := if o = 0 then 1 else (nu b T o 8).1
def pV (b : Nat → Fin 256) (T : Nat) (O : Nat → Nat) (m : Nat) (M : gMem) : Prop := ∀ p, p < m → M 36 p = nI (bg b T (O p)).1 ∧ M 37 p = nI (ln b T (O p)).1 ∧ M 38 p = nI (al b T (O p))
def sP (c _j : Nat) : Prop := c = 36 ∨ c = 37 ∨ c = 38
theorem k_locate {n T E N : Nat} {b : Nat → Fin 256} {M : gMem} {post : gMem → Prop} {O : Nat → Nat} (S : kS n b T E N M) (hO : ∀ p, p < 11 → M 35 p = nI (O p) ∧ O p < E) (H : ∀ M', fr sP M M' → pV b T O 11 M' → post M') : wp_DI_locateParts post M := by
  have t := S.2.1
  unfold hT at t
  refine pk_loop (fun k i M' => wl_DI_locateParts_2 post k (nI i) M') (fun i M' => fr sP M M' ∧ pV b T O i M') 11 0 M (by omega) ⟨fr.refl, fun p hp => by omega⟩ ?_ ?_
  · rintro k s ⟨h1, h2⟩
    unfold wl_DI_locateParts_2
    exact q_t (by decide) (H s h1 h2)
  · rintro k i s hi ⟨h1, h2⟩ next
    have S1 : kS n b T E N s := kS_fr h1 (by unfold sP; omega) (by unfold sP; omega) (by unfold sP; omega) (by unfold sP; omega) (by unfold sP; omega) S
    have g35 : s 35 i = nI (O i) := by rw [h1 35 i (by unfold sP; omega)]; exact (hO i hi).1
    have hoE := (hO i hi).2
    have i11 : vp_in (nI i) 11 := vp_in_nI hi (by omega)
    unfold wl_DI_locateParts_2
    rw [nI_clamp (by omega), g35]
    have step : ∀ x y z : Int32, x = nI (bg b T (O i)).1 → y = nI (ln b T (O i)).1 → z = nI (al b T (O i)) → ∀ M1 M2 M3 : gMem, M1 = va_up s 36 (upd (s 36) i x) → M2 = va_up M1 37 (upd (M1 37) i y) → M3 = va_up M2 38 (upd (M2 38) i z) → wl_DI_locateParts_2 post k (nI (i + 1)) M3 := by
      intro x y z ex ey ez M1 M2 M3 e1 e2 e3
      refine next M3 ⟨((h1.trans (show fr sP s M1 from e1 ▸ fr_upd (Or.inl rfl))).trans (e2 ▸ fr_upd (Or.inr (Or.inl rfl)))).trans (e3 ▸ fr_upd (Or.inr (Or.inr rfl))), fun p hp => ?_⟩
      by_cases c : p = i
      · subst c
        rw [e3, e2, e1, ex, ey, ez]
        simp [va_up, upd]
      · have := h2 p (by omega)
        rw [e3, e2, e1]
        simp [va_up, upd, c]
        exact this
    refine q_le (a := 11) (fun c => by omega) (fun c => ⟨i11, fun x1 e1 => ?_⟩)
    subst e1
    unfold wj_DI_locateParts_35 wj_DI_locateParts_56
    rw [nI_clamp (by omega)]
    refine q_ne (b := 0) (fun c0 => k_num (i := 4) S1 ⟨i11, fun M1 e1 => q_f' (by rw [show (0 : Int32) = nI 0 from rfl, nI_eq (by omega) (by omega)]; exact c0) ?_⟩) (fun c0 => ⟨i11, fun M1 e1 => q_t' (by rw [c0]; rfl) ⟨i11, fun M2 e2 => q_t' (by rw [c0]; rfl) ⟨i11, fun M3 e3 => q_x ?_⟩⟩⟩)
    · have f1 : fr sP s M1 := e1 ▸ fr_upd (Or.inl rfl)
      have S2 : kS n b T E N M1 := kS_fr f1 (by unfold sP; omega) (by unfold sP; omega) (by unfold sP; omega) (by unfold sP; omega) (by unfold sP; omega) S1
      refine k_num (i := 5) S2 ⟨i11, fun M2 e2 => q_f' (by rw [show (0 : Int32) = nI 0 from rfl, nI_eq (by omega) (by omega)]; exact c0) ?_⟩
      have f2 : fr sP M1 M2 := e2 ▸ fr_upd (Or.inr (Or.inl rfl))
      have S3 : kS n b T E N M2 := kS_fr f2 (by unfold sP; omega) (by unfold sP; omega) (by unfold sP; omega) (by unfold sP; omega) (by unfold sP; omega) S2
      refine k_num (i := 8) S3 ⟨i11, fun M3 e3 => q_x ?_⟩
      rw [nI_1]
      refine step _ _ _ ?_ ?_ ?_ M1 M2 M3 e1 e2 e3
      · rw [lN_i, bg, if_neg c0]
      · rw [lN_i, ln, if_neg c0]
      · rw [lN_i, al, if_neg c0]
    · rw [nI_1]
      refine step _ _ _ ?_ ?_ ?_ M1 M2 M3 e1 e2 e3
      · rw [bg, if_pos c0]; rfl
      · rw [ln, if_pos c0]; rfl
      · rw [al, if_pos c0]; rfl
theorem s123 {post : Int32 → gMem → Prop} {M : gMem} {f : Nat} (hf : f ≠ 0) (hl : f < 64) (h : post (nI f) M) : wj_DI_firstFault_123 post (nI f) M := q_ne (b := 0) (fun _ => h) (fun z => absurd z hf)
theorem s101 {post : Int32 → gMem → Prop} {M : gMem} {f : Nat} (hf : f ≠ 0) (hl : f < 64) (h : post (nI f) M) : wj_DI_firstFault_101 post (nI f) M := q_eq (b := 0) (fun z => absurd z hf) (fun _ => s123 hf hl h)
theorem s88 {post : Int32 → gMem → Prop} {M : gMem} {f : Nat} (hf : f ≠ 0) (hl : f < 64) (h : post (nI f) M) : wj_DI_firstFault_88 post (nI f) M := q_eq (b := 0) (fun z => absurd z hf) (fun _ => s101 hf hl h)
theorem s75 {post : Int32 → gMem → Prop} {M : gMem} {f : Nat} (hf : f ≠ 0) (hl : f < 64) (h : post (nI f) M) : wj_DI_firstFault_75 post (nI f) M := q_eq (b := 0) (fun z => absurd z hf) (fun _ => s88 hf hl h)
theorem s62 {post : Int32 → gMem → Prop} {M : gMem} {f : Nat} (hf : f ≠ 0) (hl : f < 64) (h : post (nI f) M) : wj_DI_firstFault_62 post (nI f) M := q_eq (b := 0) (fun z => absurd z hf) (fun _ => s75 hf hl h)
theorem s49 {post : Int32 → gMem → Prop} {M : gMem} {f : Nat} (hf : f ≠ 0) (hl : f < 64) (h : post (nI f) M) : wj_DI_firstFault_49 post (nI f) M := q_eq (b := 0) (fun z => absurd z hf) (fun _ => s62 hf hl h)
theorem s30 {post : Int32 → gMem → Prop} {M : gMem} {f : Nat} (hf : f ≠ 0) (hl : f < 64) (h : post (nI f) M) : wj_DI_firstFault_30 post (nI f) M := q_eq (b := 0) (fun z => absurd z hf) (fun _ => s49 hf hl h)
theorem s17 {post : Int32 → gMem → Prop} {M : gMem} {f : Nat} (hf : f ≠ 0) (hl : f < 64) (h : post (nI f) M) : wj_DI_firstFault_17 post (nI f) M := q_eq (b := 0) (fun z => absurd z hf) (fun _ => s30 hf hl h)
/-- all that a good directory gives -/
def kD (n : Nat) (b : Nat → Fin 256) (T E N : Nat) (M : gMem) : Prop := kS n b T E N M ∧ lV (qp b T N) E M ∧ pV b T (eo (qp b T N) E) 11 M
def gD (n : Nat) (b : Nat → Fin 256) (T E N : Nat) : Prop := aOk n b T E ∧ (yS b T 15 N).1 = 0 ∧ qO (qp b T N) E ∧ (∀ e, 1 ≤ e → e < E → yW b T e (qp b T N e) (eo (qp b T N) E 8) (eo (qp b T N) E 9) (eo (qp b T N) E (qp b T N e - 5)) = 10) ∧ (eo (qp b T N) E 8 ≠ 0 ∧ eo (qp b T N) E 9 ≠ 0) ∧ (∀ e, 1 ≤ e → e < E → lok (qp b T N e) (nu b T e 5).1 ∧ rs b T (qp b T N) (e + 1) ≤ 300) ∧ (yS b T 20 (eo (qp b T N) E 9)).1 = 0
theorem yMi_0 {o8 o9 o10 N : Nat} (h : (yMi o8 o9 o10 N).1 = 0) : o8 ≠ 0 ∧ o9 ≠ 0 := by
  unfold yMi at h
  repeat' split at h
  all_goals first | omega | exact absurd h (by simp)
theorem yN_0 {b : Nat → Fin 256} {T E : Nat} {q : Nat → Nat} {e : Nat} (h : (yN b T E q e).1 = 0) : yW b T e (q e) (eo q E 8) (eo q E 9) (eo q E (q e - 5)) = 10 := by
  unfold yN at h
  by_cases c : yW b T e (q e) (eo q E 8) (eo q E 9) (eo q E (q e - 5)) = 10
  · exact c
  · rw [if_neg c] at h; exact absurd h (by simp)
theorem yG_g {b : Nat → Fin 256} {T : Nat} {q : Nat → Nat} {e : Nat} (h : (yG b T q e).1 = 0) : lok (q e) (nu b T e 5).1 ∧ rs b T q (e + 1) ≤ 300 := by
  by_cases c : lok (q e) (nu b T e 5).1
  · by_cases d : rs b T q (e + 1) ≤ 300
    · exact ⟨c, d⟩
    · rw [yG_1 (Or.inr d)] at h; exact absurd h (by simp)
  · rw [yG_1 (Or.inl c)] at h; exact absurd h (by simp)
theorem gD_of {n : Nat} {b : Nat → Fin 256} {T E N : Nat} (h : (xD2 n b T E N).1 = 0) : gD n b T E N := by
  obtain ⟨h1, h2⟩ := sq_0 h
  obtain ⟨h3, h4⟩ := sq_0 h2
  obtain ⟨h5, h6⟩ := sq_0 h3
  obtain ⟨h7, h8⟩ := sq_0 h4
  obtain ⟨h9, h10⟩ := sq_0 h8
  obtain ⟨h11, h12⟩ := sq_0 h10
  exact ⟨aOk_of h1, h5, qO_of h6, fun e a1 a2 => yN_0 (fs_0 h7 e a1 (by omega)), yMi_0 h9, fun e a1 a2 => yG_g (fs_0 h11 e a1 (by omega)), h12⟩
theorem yW_1 {b : Nat → Fin 256} {T e p o8 o9 oi : Nat} (h : yW b T e p o8 o9 oi = 10) : (nu b T e 1).1 = tSo p := by
  unfold yW at h
  by_cases c : (nu b T e 1).1 = tSo p
  · exact c
  · rw [if_neg c] at h; omega
theorem yS_0 {b : Nat → Fin 256} {T f e : Nat} (hf : f ≠ 0) (h : (yS b T f e).1 = 0) : (nu b T e 1).1 = 3 ∧ 0 < (nu b T e 5).1 ∧ (b (nu b T e 4).1).1 = 0 ∧ (b ((nu b T e 4).1 + (nu b T e 5).1 - 1)).1 = 0 := by
  unfold yS at h
  repeat' split at h
  all_goals first | exact absurd h hf | omega
theorem k_dir2 {n T E N : Nat} {b : Nat → Fin 256} {M : gMem} {post : Int32 → gMem → Prop} (S : kS n b T E N M) (H : ∀ M', rC M M' (xD2 n b T E N) → ((xD2 n b T E N).1 = 0 → kD n b T E N M') → post (nI (xD2 n b T E N).1) M') : wj_DI_firstFault_17 post (0 : Int32) M := by
  have t := S.2.1
  unfold hT at t
  have l8 := eo_lt (q := qp b T N) (e := E) (p := 8) (by omega)
  have l9 := eo_lt (q := qp b T N) (e := E) (p := 9) (by omega)
  have l10 := eo_lt (q := qp b T N) (e := E) (p := 10) (by omega)
  have b1 := xEn_b (n := n) (b := b) (T := T) (E := E)
  have b2 := yS_b (b := b) (T := T) (f := 15) (e := N) (by omega)
  have b3 := xLb_b (b := b) (T := T) (E := E) (N := N)
  have b4 := xNu_b (b := b) (T := T) (E := E) (N := N)
  have b5 := yMi_b (o8 := eo (qp b T N) E 8) (o9 := eo (qp b T N) E 9) (o10 := eo (qp b T N) E 10) (N := N)
  have b6 := xLe_b (b := b) (T := T) (E := E) (N := N)
  have b7 := yS_b (b := b) (T := T) (f := 20) (e := eo (qp b T N) E 9) (by omega)
  unfold xD2 xNa xSz at H
  refine q_t rfl (k_entries S ?_)
  by_cases c1 : (xEn n b T E).1 = 0
  · rw [sq_t c1] at H
    have A := aOk_of c1
    rw [tl_0 c1, c1]
    refine q_t rfl ?_
    rw [S.2.2.2.2]
    refine k_strings (f := 15) S A (by omega) (by omega) (by omega) ?_
    by_cases c2 : (yS b T 15 N).1 = 0
    · rw [sq_t c2] at H
      have s0 := yS_0 (by omega) c2
      have aN := (A N (by omega) (by omega)).1
      rw [tl_0 c2, c2]
      refine q_t rfl (k_labels S (by omega) (fun M1 f1 a1 a2 => ?_))
      have S1 : kS n b T E N M1 := kS_fr f1 (by unfold sL; omega) (by unfold sL; omega) (by unfold sL; omega) (by unfold sL; omega) (by unfold sL; omega) S
      have f1' : fr sC M M1 := f1.mono (fun c j q => by unfold sL at q; unfold sC; omega)
      by_cases c3 : (xLb b T E N).1 = 0
      · rw [sq_t c3] at H
        obtain ⟨g32, L⟩ := a1 c3
        have Q := qO_of c3
        rw [c3]
        refine q_t rfl ⟨E - 1 + 1, k_numbers S1 L Q (E - 1) 1 (by omega) (by omega) ?_⟩
        show wj_DI_firstFault_75 post (nI (xNu b T E N).1) (tl M1 (xNu b T E N))
        by_cases c4 : (xNu b T E N).1 = 0
        · rw [sq_t c4] at H
          rw [tl_0 c4, c4]
          refine q_t rfl (k_missing S1 (L.1 8 (by omega)) (L.1 9 (by omega)) (L.1 10 (by omega)) (by omega) (by omega) (by omega) ?_)
          by_cases c5 : (yMi (eo (qp b T N) E 8) (eo (qp b T N) E 9) (eo (qp b T N) E 10) N).1 = 0
          · rw [sq_t c5] at H
            rw [tl_0 c5, c5]
            refine q_t rfl ⟨E - 1 + 1, k_lengths S1 L Q (E - 1) 1 (by omega) (by omega) ?_⟩
            show wj_DI_firstFault_101 post (nI (xLe b T E N).1) (tl M1 (xLe b T E N))
            by_cases c6 : (xLe b T E N).1 = 0
            · rw [sq_t c6] at H
              rw [tl_0 c6, c6]
              have o9 := yMi_0 c5
              refine q_t rfl ⟨in_9, ?_⟩
              rw [cl_9, L.1 9 (by omega)]
              refine k_strings (f := 20) S1 A (by omega) (by omega) (by omega) ?_
              by_cases c7 : (yS b T 20 (eo (qp b T N) E 9)).1 = 0
              · rw [tl_0 c7, c7]
                refine q_t' rfl (k_locate S1 (fun p hp => ⟨L.1 p hp, eo_lt (by omega)⟩) (fun M2 f2 P => ?_))
                have f2' : fr sC M1 M2 := f2.mono (fun c j q => by unfold sP at q; unfold sC; omega)
                rw [c7] at H
                refine H M2 ⟨f1'.trans f2', fun _ => by rw [f2 32 0 (by unfold sP; omega)]; exact g32, fun z => absurd c7 z⟩ (fun _ => ⟨kS_fr f2 (by unfold sP; omega) (by unfold sP; omega) (by unfold sP; omega) (by unfold sP; omega) (by unfold sP; omega) S1, ⟨fun p hp => ?_, fun k h1 h2 => ?_⟩, P⟩)
                · rw [f2 35 p (by unfold sP; omega)]; exact L.1 p hp
                · rw [f2 34 k (by unfold sP; omega)]; exact L.2 k h1 h2
              · exact s123 c7 b7 (H _ ⟨f1'.trans tl_rC.1, fun z => absurd z c7, tl_rC.2.2⟩ (fun z => absurd z c7))
            · rw [sq_n c6] at H
              exact s101 c6 b6 (H _ ⟨f1'.trans tl_rC.1, fun z => absurd z c6, tl_rC.2.2⟩ (fun z => absurd z c6))
          · rw [sq_n c5] at H
            exact s88 c5 b5 (H _ ⟨f1'.trans tl_rC.1, fun z => absurd z c5, tl_rC.2.2⟩ (fun z => absurd z c5))
        · rw [sq_n c4] at H
          exact s75 c4 b4 (H _ ⟨f1'.trans tl_rC.1, fun z => absurd z c4, tl_rC.2.2⟩ (fun z => absurd z c4))
      · rw [sq_n c3] at H
        exact s62 c3 b3 (H _ ⟨f1', fun z => absurd z c3, a2⟩ (fun z => absurd z c3))
    · rw [sq_n c2, sq_n c2] at H
      exact s49 c2 b2 (H _ tl_rC (fun z => absurd z c2))
  · rw [sq_n c1] at H
    exact s30 c1 b1 (H _ tl_rC (fun z => absurd z c1))
theorem k_dir {n : Nat} {b : Nat → Fin 256} {M : gMem} {post : Int32 → gMem → Prop} (V : rV n b M) (H : ∀ M', rC M M' (xD n b) → ((xD n b).1 = 0 → kD n b (v4 b 32).1 (v2 b 48).1 (v2 b 50).1 M') → post (nI (xD n b).1) M') : wp_DI_firstFault post M := by
  unfold wp_DI_firstFault
  have b1 := xMk_b (n := n) (b := b)
  have b2 := xH3_b (n := n) (b := b)
  have h8 := V.1
  unfold xD xHd at H
  refine k_mark V (q_eq (b := 0) (fun c => ?_) (fun c => ?_))
  · rw [sq_t c] at H
    rw [tl_0 c]
    have hn : 52 ≤ n := by
      unfold xMk at c
      by_cases d : n < 52
      · rw [if_pos d] at c; exact absurd c (by simp)
      · omega
    refine k_header V hn (fun M1 a1 a2 => ?_)
    by_cases c2 : (xH3 n b).1 = 0
    · rw [sq_t c2] at H
      rw [c2]
      have ok := hd_ok (n := n) (b := b) (by rw [xHd, sq_t c]; exact c2)
      have d := a2 c2
      refine k_dir2 (T := (v4 b 32).1) (E := (v2 b 48).1) (N := (v2 b 50).1) ⟨rV_C a1.1 V, ⟨by omega, by omega, by omega, by omega, by omega, by omega, by omega⟩, d.1, d.2.1, d.2.2⟩ (fun M2 r g => H M2 ⟨a1.1.trans r.1, fun z => (r.2.1 z).trans (a1.2.1 c2), r.2.2⟩ g)
    · rw [sq_n c2] at H
      exact s17 c2 b2 (H M1 a1 (fun z => absurd z c2))
  · rw [sq_n c, sq_n c] at H
    exact s17 c b1 (H _ tl_rC (fun z => absurd z c))
