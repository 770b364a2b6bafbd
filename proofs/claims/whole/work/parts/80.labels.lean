/-! strings and labels -/
theorem fs_0 {g : Nat → Nat × Nat} : ∀ {d k : Nat}, (fs g d k).1 = 0 → ∀ j, k ≤ j → j < k + d → (g j).1 = 0 := by
  intro d
  induction d with
  | zero => intro k _ j h1 h2; omega
  | succ d ih =>
    intro k h j h1 h2
    unfold fs at h
    by_cases c : (g k).1 = 0
    · rw [if_pos c] at h
      by_cases e : j = k
      · rw [e]; exact c
      · exact ih h j (by omega) (by omega)
    · rw [if_neg c] at h; exact absurd h c
theorem sq_0 {x y : Nat × Nat} (h : (sq x y).1 = 0) : x.1 = 0 ∧ y.1 = 0 := by
  unfold sq at h
  by_cases c : x.1 = 0
  · rw [if_pos c] at h; exact ⟨c, h⟩
  · rw [if_neg c] at h; exact absurd h c
theorem tl_fr {S : Nat → Nat → Prop} {M : gMem} {x : Nat × Nat} (h : S 32 0) : fr S M (tl M x) := by
  unfold tl
  split
  · exact fr.refl
  · exact fr_upd h
theorem tm_fr {S : Nat → Nat → Prop} {M : gMem} {x : Nat × Nat} (h : S 41 23) : fr S M (tm M x) := by
  unfold tm
  split
  · exact fr.refl
  · exact fr_upd h
def aOk (n : Nat) (b : Nat → Fin 256) (T E : Nat) : Prop := ∀ e, 1 ≤ e → e < E → ((nu b T e 1).1 = 8 ∨ (nu b T e 4).1 + (nu b T e 5).1 ≤ n) ∧ pw (nu b T e 8).1
theorem aOk_of {n : Nat} {b : Nat → Fin 256} {T E : Nat} (h : (xEn n b T E).1 = 0) : aOk n b T E := by
  intro e h1 h2
  have := fs_0 (sq_0 h).2 e h1 (by omega)
  unfold yE at this
  repeat' split at this
  all_goals first | exact ⟨by omega, by rw [← pwb_t]; assumption⟩ | exact absurd this (by simp)
def yS (b : Nat → Fin 256) (T f e : Nat) : Nat × Nat := if (nu b T e 1).1 = 3 then (if (nu b T e 5).1 = 0 then (f, T + 40 * e + 4 * 5) else if (b (nu b T e 4).1).1 = 0 then (if (b ((nu b T e 4).1 + (nu b T e 5).1 - 1)).1 = 0 then (0, 0) else (f, (nu b T e 4).1 + (nu b T e 5).1 - 1)) else (f, (nu b T e 4).1)) else (f, T + 40 * e + 4 * 1)
theorem k_strings {n T E N : Nat} {b : Nat → Fin 256} {M : gMem} {post : Int32 → gMem → Prop} {f e : Nat} (S : kS n b T E N M) (A : aOk n b T E) (he : e < E) (he1 : 1 ≤ e) (hf : f ≠ 0) (H : post (nI (yS b T f e).1) (tl M (yS b T f e))) : wp_DI_stringsFault post (nI f) (nI e) M := by
  have t := S.2.1
  have a := (A e he1 he).1
  unfold hT at t
  unfold wp_DI_stringsFault
  unfold yS at H
  refine k_num (i := 1) S (ql_eq (b := 3) (fun c => ?_) (fun c => ?_))
  · rw [if_pos c] at H
    refine k_num (i := 4) S (fun x5 e5 => k_num (i := 5) S (fun x8 e8 => ?_))
    rw [lN_i] at e5 e8
    subst e5 e8
    refine q_ne (b := 0) (fun d => ?_) (fun d => ?_)
    · rw [if_neg d] at H
      refine k_u1 S.1 (q_eq (b := 0) (fun d1 => fun x11 e11 => ?_) (fun d1 => ?_))
      · rw [if_pos d1] at H
        rw [nI_add, show nI ((nu b T e 4).1 + (nu b T e 5).1) - (1 : Int32) = nI ((nu b T e 4).1 + (nu b T e 5).1 - 1) from pk_sub (b := 1) (by omega)] at e11
        subst e11
        refine k_u1 S.1 (q_eq (b := 0) (fun d2 => ?_) (fun d2 => ?_))
        · rw [if_pos d2] at H; exact H
        · rw [if_neg d2] at H; exact k_tell H hf
      · rw [if_neg d1] at H; exact k_tell H hf
    · rw [if_pos d] at H; exact k_tellE (i := 5) S H hf
  · rw [if_neg c] at H; exact k_tellE (i := 1) S H hf
def tcs : List (List Nat) := [[46, 116, 101, 120, 116], [46, 114, 111, 100, 97, 116, 97], [46, 100, 97, 116, 97], [46, 98, 115, 115], [46, 115, 116, 97, 114, 116, 115], [46, 114, 101, 108, 97, 46, 116, 101, 120, 116], [46, 114, 101, 108, 97, 46, 114, 111, 100, 97, 116, 97], [46, 114, 101, 108, 97, 46, 100, 97, 116, 97], [46, 115, 121, 109, 116, 97, 98], [46, 115, 116, 114, 116, 97, 98], [46, 115, 104, 115, 116, 114, 116, 97, 98]]
def tc (t i : Nat) : Nat := (tcs.getD t []).getD i 0
theorem tc_g : ∀ t, t < 11 → ∀ i, i < 12 → i < gSl t → gSch t (nI i) = nI (tc t i) := by decide +kernel
theorem tc_m : ∀ t, t < 11 → ∀ i, i < 13 → i ≤ gSl t → pTi.getD (pTa.getD t 0 + i) 0 = nI (tc t i) ∧ pTa.getD t 0 + i < 94 := by decide +kernel
theorem tc_n : ∀ t, t < 11 → ∀ i, i < 13 → i ≤ gSl t → tc t i < 128 ∧ (tc t i = 0 ↔ i = gSl t) := by decide +kernel
theorem tc_l : ∀ t, t < 11 → 4 ≤ gSl t ∧ gSl t ≤ 12 := by decide +kernel
theorem tc_u : ∀ t, t < 11 → ∀ s, s < 11 → t ≠ s → ∃ i, i < 13 ∧ i ≤ gSl t ∧ i ≤ gSl s ∧ tc t i ≠ tc s i := by decide +kernel
def stb (b : Nat → Fin 256) (p t : Nat) : Bool := (List.range (gSl t + 1)).all (fun i => (b (p + i)).1 == tc t i)
theorem stb_t {b : Nat → Fin 256} {p t : Nat} : stb b p t = true ↔ ∀ i, i ≤ gSl t → (b (p + i)).1 = tc t i := by
  unfold stb
  rw [List.all_eq_true]
  constructor
  · intro h i hi
    have := h i (List.mem_range.mpr (by omega))
    simpa using this
  · intro h i hi
    have := h i (by have := List.mem_range.mp hi; omega)
    simpa using this
theorem stb_f {b : Nat → Fin 256} {p t i : Nat} (hi : i ≤ gSl t) (h : (b (p + i)).1 ≠ tc t i) : stb b p t = false := by
  cases c : stb b p t
  · rfl
  · exact absurd (stb_t.mp c i hi) h
theorem k_stands {n : Nat} {b : Nat → Fin 256} {M : gMem} {post : Bool → gMem → Prop} {p t : Nat} (V : rV n b M) (hp : p < 2 ^ 30) (ht : t < 11) (H : post (stb b p t) M) : wp_DI_standsAt post (nI p) t M := by
  have hl := tc_l t ht
  refine ⟨ht, fun x1 e1 => ?_⟩
  have e1' : x1 = nI (gSl t) := e1
  subst e1'
  refine pk_loop (fun k i M' => wl_DI_standsAt_8 post k (nI p) t (nI (gSl t)) (nI i) M') (fun i M' => M' = M ∧ ∀ j, j < i → (b (p + j)).1 = tc t j) (gSl t) 0 M (by omega) ⟨rfl, fun j hj => by omega⟩ ?_ ?_
  · rintro k s ⟨rfl, hI⟩
    unfold wl_DI_standsAt_8
    refine q_t (nI_le (by omega) (by omega)) ?_
    rw [nI_add]
    have hn := tc_n t ht (gSl t) (by omega) (by omega)
    refine k_u1 V (q_ne (b := 0) (fun c => ?_) (fun c => ?_))
    · rw [stb_f (i := gSl t) (by omega) (by rw [hn.2.mpr rfl]; exact c)] at H; exact H
    · rw [stb_t.mpr (fun i hi => by
        by_cases d : i = gSl t
        · rw [d, c]; exact (hn.2.mpr rfl).symm
        · exact hI i (by omega))] at H
      exact H
  · rintro k i s hi ⟨rfl, hI⟩ next
    unfold wl_DI_standsAt_8
    have hn := tc_n t ht i (by omega) (by omega)
    refine q_f (nI_ge hi (by omega)) ?_
    rw [nI_add, tc_g t ht i (by omega) hi]
    refine k_u1 V ⟨ht, vp_in_nI hi (by omega), q_eq (fun c => q_x ?_) (fun c => ?_)⟩
    · rw [nI_1]
      refine next s ⟨rfl, fun j hj => ?_⟩
      by_cases d : j = i
      · rw [d]; exact c
      · exact hI j (by omega)
    · rw [stb_f (i := i) (by omega) c] at H; exact H
def pf (b : Nat → Fin 256) (p : Nat) : Nat → Nat → Nat
  | 0, _ => 11
  | d + 1, t => if stb b p t = true then t else pf b p d (t + 1)
def pn (b : Nat → Fin 256) (p : Nat) : Nat := pf b p 11 0
def wq (k : Nat) : Int32 := if k = 11 then -1 else nI k
theorem k_label {M : gMem} {post : Nat → gMem → Prop} {t : Nat} (ht : t < 11) (H : post t M) : wp_OF_labelOf post (nI t) M := by
  unfold wp_OF_labelOf
  refine q_eq (b := 0) (fun c => ?_) (fun c0 => q_eq (b := 1) (fun c => ?_) (fun c1 => q_eq (b := 2) (fun c => ?_) (fun c2 => q_eq (b := 3) (fun c => ?_) (fun c3 => q_eq (b := 4) (fun c => ?_) (fun c4 => q_eq (b := 5) (fun c => ?_) (fun c5 => q_eq (b := 6) (fun c => ?_) (fun c6 => q_eq (b := 7) (fun c => ?_) (fun c7 => q_eq (b := 8) (fun c => ?_) (fun c8 => q_eq (b := 9) (fun c => ?_) (fun c9 => ?_))))))))))
  all_goals first | (subst c; exact H) | (have : t = 10 := by omega); subst this; exact H
theorem k_pf {n : Nat} {b : Nat → Fin 256} {M : gMem} {post : Int32 → gMem → Prop} {p : Nat} (V : rV n b M) (hp : p < 2 ^ 30) : ∀ d t, t + d = 11 → post (wq (pf b p d t)) M → wl_DI_partNamedBy_40 post (d + 1) (nI p) (nI t) M := by
  intro d
  induction d with
  | zero =>
    intro t ht H
    unfold wl_DI_partNamedBy_40
    exact q_le (a := 11) (fun c => H) (fun c => by omega)
  | succ d ih =>
    intro t ht H
    unfold wl_DI_partNamedBy_40
    unfold pf at H
    refine q_le (a := 11) (fun c => by omega) (fun c => k_label (by omega) (k_stands V hp (by omega) (q_b (fun d0 => q_x ?_) (fun d0 => ?_))))
    · rw [if_neg (by rw [d0]; simp)] at H
      rw [nI_1]
      exact ih (t + 1) (by omega) H
    · rw [if_pos d0, wq, if_neg (by omega)] at H; exact H
theorem pf_le {b : Nat → Fin 256} {p : Nat} : ∀ d t, t + d = 11 → pf b p d t ≤ 11 ∧ t ≤ pf b p d t ∧ (pf b p d t < 11 → stb b p (pf b p d t) = true) := by
  intro d
  induction d with
  | zero => intro t ht; unfold pf; omega
  | succ d ih =>
    intro t ht
    unfold pf
    by_cases c : stb b p t = true
    · rw [if_pos c]; exact ⟨by omega, by omega, fun _ => c⟩
    · rw [if_neg c]
      have := ih (t + 1) (by omega)
      exact ⟨this.1, by omega, this.2.2⟩
theorem pf_ff {b : Nat → Fin 256} {p : Nat} : ∀ d t, t + d = 11 → ∀ s, t ≤ s → s < pf b p d t → stb b p s = false := by
  intro d
  induction d with
  | zero => intro t ht s h1 h2; unfold pf at h2; omega
  | succ d ih =>
    intro t ht s h1 h2
    unfold pf at h2
    by_cases c : stb b p t = true
    · rw [if_pos c] at h2; omega
    · rw [if_neg c] at h2
      by_cases e : s = t
      · rw [e]; simpa using c
      · exact ih (t + 1) (by omega) s (by omega) h2
theorem pn_le {b : Nat → Fin 256} {p : Nat} : pn b p ≤ 11 := (pf_le 11 0 (by omega)).1
theorem pn_t {b : Nat → Fin 256} {p t : Nat} (ht : t < 11) (h : stb b p t = true) : pn b p = t := by
  have h1 := pf_le (b := b) (p := p) 11 0 (by omega)
  have h2 := pf_ff (b := b) (p := p) 11 0 (by omega) t (by omega)
  unfold pn
  by_cases c : pf b p 11 0 = t
  · exact c
  · exfalso
    by_cases d : t < pf b p 11 0
    · rw [h2 d] at h; exact absurd h (by simp)
    · obtain ⟨i, hi, hi1, hi2, hi3⟩ := tc_u t ht _ (by omega) (fun e => c e.symm)
      exact hi3 ((stb_t.mp h i hi1).symm.trans (stb_t.mp (h1.2.2 (by omega)) i hi2))
theorem pn_f {b : Nat → Fin 256} {p t : Nat} (ht : t < 11) (h : stb b p t = false) : pn b p ≠ t := by
  intro e
  have h1 := (pf_le (b := b) (p := p) 11 0 (by omega)).2.2
  unfold pn at e
  rw [e, h] at h1
  exact absurd (h1 ht) (by simp)
/-- the part that entry e is named for; 11: none -/
def qp (b : Nat → Fin 256) (T N e : Nat) : Nat := if (nu b T e 0).1 < (nu b T N 5).1 then pn b ((nu b T N 4).1 + (nu b T e 0).1) else 11
theorem qp_le {b : Nat → Fin 256} {T N e : Nat} : qp b T N e ≤ 11 := by
  unfold qp
  split
  · exact pn_le
  · omega
theorem k_named {n T E N : Nat} {b : Nat → Fin 256} {M : gMem} {post : Int32 → gMem → Prop} {e : Nat} (S : kS n b T E N M) (hz : (nu b T N 4).1 + (nu b T N 5).1 ≤ n) (he : e < E) (H : post (wq (qp b T N e)) M) : wp_DI_partNamedBy post (nI e) M := by
  have t := S.2.1
  unfold hT at t
  unfold wp_DI_partNamedBy
  unfold qp at H
  refine k_num (i := 0) S ?_
  try dsimp only
  rw [S.2.2.2.2]
  refine k_num (i := 5) S (ql_lt (fun c => ?_) (fun c => ?_))
  · rw [S.2.2.2.2]
    refine k_num (i := 4) S (fun x7 e7 => ⟨12, ?_⟩)
    rw [lN_add, lN_i] at e7
    subst e7
    rw [if_pos c] at H
    exact k_pf S.1 (by omega) 11 0 (by omega) H
  · rw [if_neg (by omega)] at H; exact H
def eo (q : Nat → Nat) : Nat → Nat → Nat
  | 0, _ => 0
  | k + 1, p => if 1 ≤ k ∧ q k = p then k else eo q k p
theorem eo_lt {q : Nat → Nat} : ∀ {e p : Nat}, 1 ≤ e → eo q e p < e := by
  intro e
  induction e with
  | zero => intro p h; omega
  | succ k ih =>
    intro p _
    unfold eo
    split
    · omega
    · cases k with
      | zero => unfold eo; omega
      | succ j => have := ih (p := p) (by omega); omega
theorem eo_1 {q : Nat → Nat} {p : Nat} : eo q 1 p = 0 := by
  unfold eo
  split <;> rfl
def yL (q : Nat → Nat) (T e : Nat) : Nat × Nat := if q e = 11 then (16, T + 40 * e + 4 * 0) else if eo q e (q e) = 0 then (0, 0) else (16, T + 40 * e + 4 * 0)
def sL (c _j : Nat) : Prop := c = 32 ∨ c = 34 ∨ c = 35
theorem kS_fr {n T E N : Nat} {b : Nat → Fin 256} {S : Nat → Nat → Prop} {M M' : gMem} (hf : fr S M M') (h0 : ∀ j, ¬ S 33 j) (h1 : ¬ S 17 1) (h2 : ¬ S 41 22) (h3 : ∀ j, ¬ S 18 j) (h4 : ∀ j, ¬ S 62 j) (K : kS n b T E N M) : kS n b T E N M' := ⟨rV_fr hf h1 h2 h3 h4 K.1, K.2.1, by rw [hf _ _ (h0 7)]; exact K.2.2.1, by rw [hf _ _ (h0 8)]; exact K.2.2.2.1, by rw [hf _ _ (h0 9)]; exact K.2.2.2.2⟩
def lV (q : Nat → Nat) (e : Nat) (M : gMem) : Prop := (∀ p, p < 11 → M 35 p = nI (eo q e p)) ∧ ∀ k, 1 ≤ k → k < e → M 34 k = nI (q k)
theorem wq_e {k : Nat} {A B : Prop} (f : k = 11 → A) (g : k ≠ 11 → B) (hk : k < 2 ^ 31 := by omega) : (wq k = (-1 : Int32) → A) ∧ (¬ wq k = (-1 : Int32) → B) := by
  unfold wq
  by_cases c : k = 11
  · rw [if_pos c]; exact ⟨fun _ => f c, fun d => absurd rfl d⟩
  · rw [if_neg c]
    refine ⟨fun d => ?_, fun _ => g c⟩
    exfalso
    rw [ti_eq, ti_nI hk, show ((-1 : Int32)).toInt = -1 from rfl] at d
    omega
theorem k_lab {n T E N : Nat} {b : Nat → Fin 256} {post : Int32 → gMem → Prop} (hz : (nu b T N 4).1 + (nu b T N 5).1 ≤ n) : ∀ d e (M : gMem), e + d = E → 1 ≤ e → kS n b T E N M → lV (qp b T N) e M → (∀ M', fr sL M M' → ((fs (yL (qp b T N) T) d e).1 = 0 → M' 32 0 = M 32 0 ∧ lV (qp b T N) E M') → ((fs (yL (qp b T N) T) d e).1 ≠ 0 → M' 32 0 = nI (fs (yL (qp b T N) T) d e).2) → post (nI (fs (yL (qp b T N) T) d e).1) M') → wl_DI_labelsFault_10 post (d + 1) (nI e) M := by
  intro d
  induction d with
  | zero =>
    intro e M hk h1 S L H
    have t := S.2.1
    unfold hT at t
    unfold wl_DI_labelsFault_10
    rw [S.2.2.2.1]
    have he : e = E := by omega
    subst he
    exact q_le (fun c => H M fr.refl (fun _ => ⟨rfl, L⟩) (fun q => absurd rfl q)) (fun c => by omega)
  | succ d ih =>
    intro e M hk h1 S L H
    have t := S.2.1
    unfold hT at t
    unfold wl_DI_labelsFault_10
    rw [S.2.2.2.1]
    have hq := qp_le (b := b) (T := T) (N := N) (e := e)
    have he := eo_lt (q := qp b T N) (e := e) (p := qp b T N e) h1
    unfold fs at H
    have bad : yL (qp b T N) T e = (16, T + 40 * e + 4 * 0) → wp_DI_tellEntry (fun r M' => post r M') (16 : Int32) (nI e) (0 : Int32) M := by
      intro ey
      rw [ey, if_neg (by simp)] at H
      exact k_tellE (f := 16) (i := 0) S (H _ (tl_fr (Or.inl rfl)) (fun q => absurd q (by simp)) (fun _ => tl_rC.2.2 (by simp)))
    refine q_le (fun c => by omega) (fun c => q_le (a := 16) (fun c2 => by omega) (fun c2 => k_named S hz (by omega) (wq_e (fun c3 => bad (by rw [yL, if_pos c3])) (fun c3 => ?_))))
    rw [wq, if_neg c3, nI_clamp (by omega), L.1 _ (by omega)]
    refine ⟨vp_in_nI (by omega) (by omega), q_eq (b := 0) (fun c4 => ⟨vp_in_nI (by omega) (by omega), fun M1 e1 => ⟨vp_in_nI (by omega) (by omega), fun M2 e2 => q_x ?_⟩⟩) (fun c4 => bad (by rw [yL, if_neg c3, if_neg c4]))⟩
    rw [yL, if_neg c3, if_pos c4, if_pos rfl] at H
    have f1 : fr sL M M1 := e1 ▸ fr_upd (Or.inr (Or.inr rfl))
    have f2 : fr sL M M2 := f1.trans (e2 ▸ fr_upd (Or.inr (Or.inl rfl)))
    rw [nI_1]
    have g0 : M2 32 0 = M 32 0 := by rw [e2, e1]; rfl
    refine ih (e + 1) M2 (by omega) (by omega) (kS_fr f2 (by unfold sL; omega) (by unfold sL; omega) (by unfold sL; omega) (by unfold sL; omega) (by unfold sL; omega) S) ⟨fun p hp => ?_, fun k hk1 hk2 => ?_⟩ (fun M' f a1 a2 => H M' (f2.trans f) (fun z => ⟨(a1 z).1.trans g0, (a1 z).2⟩) a2)
    · unfold eo
      have gg : M2 35 p = upd (M 35) (qp b T N e) (nI e) p := by rw [e2, e1]; rfl
      rw [gg]
      unfold upd
      by_cases cp : p = qp b T N e
      · rw [if_pos cp, if_pos ⟨h1, cp.symm⟩]
      · rw [if_neg cp, if_neg (by intro z; exact cp z.2.symm)]
        exact L.1 p hp
    · rw [nI_clamp (by omega)] at e2
      by_cases ck : k = e
      · subst ck
        rw [e2]
        simp [va_up, upd]
      · have : M2 34 k = M 34 k := by rw [e2, e1]; simp [va_up, upd, ck]
        rw [this]
        exact L.2 k hk1 (by omega)
theorem k_fill35 {post : gMem → Prop} {M : gMem} (H : ∀ M', fr sL M M' → M' 32 0 = M 32 0 → (∀ p, p < 11 → M' 35 p = nI 0) → post M') : wp_AR_fill1_35 post (0 : Int32) M := by
  refine pk_loop (fun k i M' => wl_AR_fill1_35_5 post k (0 : Int32) (nI i) (11 : Int32) M') (fun i M' => fr sL M M' ∧ M' 32 0 = M 32 0 ∧ ∀ p, p < i → M' 35 p = nI 0) 11 0 M (by omega) ⟨fr.refl, rfl, fun p hp => by omega⟩ ?_ ?_
  · rintro k s ⟨h1, h2, h3⟩
    unfold wl_AR_fill1_35_5
    exact q_t (by decide) (H s h1 h2 h3)
  · rintro k i s hi ⟨h1, h2, h3⟩ next
    unfold wl_AR_fill1_35_5
    refine q_le (a := 11) (fun c => by omega) (fun c => ⟨vp_in_nI hi (by omega), fun M1 e1 => q_x ?_⟩)
    rw [nI_1]
    rw [nI_clamp (by omega)] at e1
    refine next M1 ⟨h1.trans (e1 ▸ fr_upd (Or.inr (Or.inr rfl))), by rw [e1]; exact h2, fun p hp => ?_⟩
    by_cases cp : p = i
    · subst cp
      rw [e1]
      simp [va_up, upd]
      rfl
    · rw [e1]
      simp [va_up, upd, cp]
      exact h3 p (by omega)
def xLb (b : Nat → Fin 256) (T E N : Nat) : Nat × Nat := fs (yL (qp b T N) T) (E - 1) 1
theorem k_labels {n T E N : Nat} {b : Nat → Fin 256} {M : gMem} {post : Int32 → gMem → Prop} (S : kS n b T E N M) (hz : (nu b T N 4).1 + (nu b T N 5).1 ≤ n) (H : ∀ M', fr sL M M' → ((xLb b T E N).1 = 0 → M' 32 0 = M 32 0 ∧ lV (qp b T N) E M') → ((xLb b T E N).1 ≠ 0 → M' 32 0 = nI (xLb b T E N).2) → post (nI (xLb b T E N).1) M') : wp_DI_labelsFault post M := by
  have t := S.2.1
  unfold hT at t
  refine k_fill35 (fun M1 f1 g1 h1 => ⟨E - 1 + 1, ?_⟩)
  refine k_lab hz (E - 1) 1 M1 (by omega) (by omega) (kS_fr f1 (by unfold sL; omega) (by unfold sL; omega) (by unfold sL; omega) (by unfold sL; omega) (by unfold sL; omega) S) ⟨fun p hp => by rw [eo_1]; exact h1 p hp, fun k h1 h2 => by omega⟩ (fun M' f a1 a2 => H M' (f1.trans f) (fun z => ⟨(a1 z).1.trans g1, (a1 z).2⟩) a2)
