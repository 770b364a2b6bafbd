/-! behind the constructors -/
section
variable {M : gMem}
theorem mpN_o {k c j : Nat} (h : c ≠ k) : mpN M k c j = M c j := by
  unfold mpN; rw [up_ne h]
theorem mpF_o {k i c j : Nat} {x : Int32} (h : c ≠ k ∨ j ≠ i) : mpF M k i x c j = M c j := u_ne rfl h
theorem mpF_a {k i : Nat} {x : Int32} : mpF M k i x k i = x := u_at rfl
def spI (c j : Nat) : Prop := ((c = 4 ∨ c = 12) ∧ j < 4) ∨ (c = 32 ∧ j = 0) ∨ (c = 41 ∧ j = 23)
def pz (M : gMem) : Prop := ∀ c j, ¬ spI c j → M c j = 0
theorem pz_N {k : Nat} (h : pz M) : pz (mpN M k) := by
  intro c j hn
  by_cases e : c = k
  · subst e; unfold mpN; rw [up_same]
  · rw [mpN_o e]; exact h c j hn
theorem pz_F {k i : Nat} (h : pz M) : pz (mpF M k i 0) := by
  intro c j hn
  by_cases e : c = k ∧ j = i
  · obtain ⟨e1, e2⟩ := e
    subst e1; subst e2; exact mpF_a
  · rw [mpF_o (by omega)]; exact h c j hn
theorem pz_S {k i : Nat} {x : Int32} (hs : spI k i) (h : pz M) : pz (mpF M k i x) := by
  intro c j hn
  rw [mpF_o]
  · exact h c j hn
  · by_cases e1 : c = k
    · by_cases e2 : j = i
      · subst e1; subst e2; exact absurd hs hn
      · exact Or.inr e2
    · exact Or.inl e1
theorem pz_1 (h : pz M) : pz (im_CT_init_1 M) := by
  unfold im_CT_init_1
  repeat' first | exact h | with_reducible refine pz_N ?_ | with_reducible refine pz_F ?_ | refine pz_S (Or.inl ⟨Or.inl rfl, by decide⟩) ?_
theorem pz_9 (h : pz M) : pz (im_CT_init_9 M) := by
  unfold im_CT_init_9
  repeat' first | exact h | with_reducible refine pz_N ?_ | with_reducible refine pz_F ?_ | refine pz_S (Or.inl ⟨Or.inr rfl, by decide⟩) ?_
theorem pz_19 (h : pz M) : pz (im_WR_init_19 M) := by
  unfold im_WR_init_19 im_ST_init_20 im_ST_init_22
  repeat' first | exact h | with_reducible refine pz_N ?_ | with_reducible refine pz_F ?_
theorem pz_33 (h : pz M) : pz (im_DI_init_33 M) := by
  unfold im_DI_init_33
  repeat' first | exact h | with_reducible refine pz_N ?_ | with_reducible refine pz_F ?_
theorem pz_0 (h : pz M) : pz (im_OF_init_0 M) := by
  unfold im_OF_init_0 im_RE_init_39 im_FI_init_32 im_FB_init_17
  repeat' first | exact h | with_reducible refine pz_N ?_ | with_reducible refine pz_F ?_ | with_reducible refine pz_33 ?_ | with_reducible refine pz_19 ?_ | with_reducible refine pz_9 ?_ | with_reducible refine pz_1 ?_ | refine pz_S (Or.inr (Or.inl ⟨rfl, rfl⟩)) ?_
theorem pz_MO (h : pz M) : pz (im_MO M) := by
  unfold im_MO
  repeat' first | exact h | with_reducible refine pz_N ?_ | with_reducible refine pz_F ?_ | refine pz_S (Or.inr (Or.inr ⟨rfl, rfl⟩)) ?_
theorem v_MO {c j : Nat} (hc : c ≤ 40) : im_MO M c j = M c j := by
  unfold im_MO
  repeat (first | rw [mpN_o (by omega)] | rw [mpF_o (Or.inl (by omega))])
theorem v_MO23 : im_MO M 41 23 = -1 := by
  unfold im_MO
  repeat (first | rw [mpN_o (by decide)] | rw [mpF_o (by decide)])
  exact mpF_a
theorem v_19 {c j : Nat} (hc : c ≤ 18) : im_WR_init_19 M c j = M c j := by
  unfold im_WR_init_19 im_ST_init_20 im_ST_init_22
  repeat (first | rw [mpN_o (by omega)] | rw [mpF_o (Or.inl (by omega))])
theorem v_33 {c j : Nat} (hc : c ≤ 32) : im_DI_init_33 M c j = M c j := by
  unfold im_DI_init_33
  repeat (first | rw [mpN_o (by omega)] | rw [mpF_o (Or.inl (by omega))])
theorem v_1 {c j : Nat} (hj : j < 4) : im_CT_init_1 M 4 j = 1 := by
  unfold im_CT_init_1
  rcases (by omega : j = 0 ∨ j = 1 ∨ j = 2 ∨ j = 3) with e | e | e | e
  all_goals
    subst e
    repeat (first | exact mpF_a | rw [mpN_o (by decide)] | rw [mpF_o (by decide)])
theorem v_9 {c j : Nat} (hj : j < 4) : im_CT_init_9 M 12 j = 1 := by
  unfold im_CT_init_9
  rcases (by omega : j = 0 ∨ j = 1 ∨ j = 2 ∨ j = 3) with e | e | e | e
  all_goals
    subst e
    repeat (first | exact mpF_a | rw [mpN_o (by decide)] | rw [mpF_o (by decide)])
theorem v_9o {c j : Nat} (hc : c ≤ 8) : im_CT_init_9 M c j = M c j := by
  unfold im_CT_init_9
  repeat (first | rw [mpN_o (by omega)] | rw [mpF_o (Or.inl (by omega))])
theorem v_4 {j : Nat} (hj : j < 4) : im_OF_init_0 M 4 j = 1 := by
  unfold im_OF_init_0 im_RE_init_39 im_FI_init_32 im_FB_init_17
  repeat (first | rw [mpN_o (by decide)] | rw [mpF_o (Or.inl (by decide))] | rw [v_33 (by decide)] | rw [v_19 (by decide)] | rw [v_9o (by decide)])
  exact v_1 (c := 0) hj
theorem v_12 {j : Nat} (hj : j < 4) : im_OF_init_0 M 12 j = 1 := by
  unfold im_OF_init_0 im_RE_init_39 im_FI_init_32 im_FB_init_17
  repeat (first | rw [mpN_o (by decide)] | rw [mpF_o (Or.inl (by decide))] | rw [v_33 (by decide)] | rw [v_19 (by decide)])
  exact v_9 (c := 0) hj
theorem v_32 : im_OF_init_0 M 32 0 = -1 := by
  unfold im_OF_init_0 im_RE_init_39 im_FI_init_32 im_FB_init_17
  repeat (first | rw [mpN_o (by decide)] | rw [mpF_o (Or.inl (by decide))] | rw [v_33 (by decide)])
  exact mpF_a
/-- titles -/
def sTt (c j : Nat) : Prop := c = 63 ∨ c = 64 ∨ (c = 41 ∧ j = 36)
def tS (M0 M : gMem) (l : List Int32) (t : Nat) : Prop := fr sTt M0 M ∧ M 41 36 = nI l.length ∧ (∀ k, k < l.length → M 63 k = l.getD k 0) ∧ ∀ u, u < t → M 64 u = nI (pTa.getD u 0)
theorem t_let {M0 : gMem} {l : List Int32} {t : Nat} {post : gMem → Prop} {a : Int32} (S : tS M0 M l t) (hl : l.length < 127) (H : ∀ M', tS M0 M' (l ++ [a]) t → post M') : wp_MO_letterOf post a M := by
  obtain ⟨s1, s2, s3, s4⟩ := S
  unfold wp_MO_letterOf
  rw [s2, nI_clamp (by omega)]
  refine ⟨vp_in_nI (by omega) (by omega), fun M1 e1 M2 e2 => H M2 ?_⟩
  rw [show M1 41 36 = nI l.length by rw [u_ne e1]; exact s2, nI_1] at e2
  refine ⟨s1.trans ((show fr sTt M M1 by rw [e1]; exact fr_upd (Or.inl rfl)).trans (by rw [e2]; exact fr_upd (Or.inr (Or.inr ⟨rfl, rfl⟩)))), ?_, fun k hk => ?_, fun u hu => ?_⟩
  · rw [u_at e2, List.length_append]; rfl
  · rw [List.length_append] at hk
    rw [u_ne e2]
    by_cases c : k < l.length
    · rw [u_ne e1, s3 k c, List.getD_eq_getElem?_getD, List.getD_eq_getElem?_getD, List.getElem?_append_left c]
    · have e : k = l.length := by simp only [List.length_cons, List.length_nil] at hk; omega
      subst e
      rw [u_at e1, List.getD_eq_getElem?_getD, List.getElem?_append_right (Nat.le_refl _)]
      simp
  · rw [u_ne e2, u_ne e1]; exact s4 u hu
def op (x : Int32) : List Int32 := if x = 0 then [] else [x]
theorem op_l {x : Int32} : (op x).length ≤ 1 := by unfold op; split <;> simp
theorem t_op {M0 : gMem} {l : List Int32} {t : Nat} {K : gMem → Prop} {x : Int32} (S : tS M0 M l t) (hl : l.length < 127) (H : ∀ M', tS M0 M' (l ++ op x) t → K M') : (x = 0 → K M) ∧ (¬ x = 0 → wp_MO_letterOf (fun M' => K M') x M) := by
  refine ⟨fun e => H M ?_, fun e => t_let S hl (fun M' S' => H M' ?_)⟩
  · unfold op; rw [if_pos e, List.append_nil]; exact S
  · unfold op; rw [if_neg e]; exact S'
def tit (a1 a2 a3 a4 a5 a6 a7 a8 : Int32) : List Int32 := [46] ++ (if a1 = 114 then [114, 101, 108, 97, 46] else []) ++ [a2] ++ [a3] ++ [a4] ++ op a5 ++ op a6 ++ op a7 ++ op a8 ++ [0]
theorem t_52 {M0 : gMem} {l : List Int32} {t : Nat} {post : gMem → Prop} {a2 a3 a4 a5 a6 a7 a8 : Int32} (S : tS M0 M l t) (hl : l.length < 115) (H : ∀ M', tS M0 M' (l ++ [a2] ++ [a3] ++ [a4] ++ op a5 ++ op a6 ++ op a7 ++ op a8 ++ [0]) t → post M') : wj_MO_title_52 post a2 a3 a4 a5 a6 a7 a8 M := by
  unfold wj_MO_title_52
  have l5 := op_l (x := a5)
  have l6 := op_l (x := a6)
  have l7 := op_l (x := a7)
  have l8 := op_l (x := a8)
  refine t_let S (by omega) (fun Ma Sa => t_let Sa (by simp only [List.length_append, List.length_cons, List.length_nil]; omega) (fun Mb Sb => t_let Sb (by simp only [List.length_append, List.length_cons, List.length_nil]; omega) (fun Mc Sc => ?_)))
  refine t_op (K := fun M' => wj_MO_title_80 post a6 a7 a8 M') Sc (by simp only [List.length_append, List.length_cons, List.length_nil]; omega) (fun Md Sd => ?_)
  unfold wj_MO_title_80
  refine t_op (K := fun M' => wj_MO_title_91 post a7 a8 M') Sd (by simp only [List.length_append, List.length_cons, List.length_nil]; omega) (fun Me Se => ?_)
  unfold wj_MO_title_91
  refine t_op (K := fun M' => wj_MO_title_102 post a8 M') Se (by simp only [List.length_append, List.length_cons, List.length_nil]; omega) (fun Mf Sf => ?_)
  unfold wj_MO_title_102
  refine t_op (K := fun M' => wp_MO_letterOf (fun M11 => post M11) (0 : Int32) M') Sf (by simp only [List.length_append, List.length_cons, List.length_nil]; omega) (fun Mg Sg => ?_)
  exact t_let Sg (by simp only [List.length_append, List.length_cons, List.length_nil]; omega) (fun Mh Sh => H Mh Sh)
theorem t_title {M0 : gMem} {l : List Int32} {t : Nat} {post : gMem → Prop} {a0 a1 a2 a3 a4 a5 a6 a7 a8 : Int32} (S : tS M0 M l t) (ht : t < 11) (e0 : a0 = nI t) (ep : pTa.getD t 0 = l.length) (hl : l.length < 100) (H : ∀ M', tS M0 M' (l ++ tit a1 a2 a3 a4 a5 a6 a7 a8) (t + 1) → post M') : wp_MO_title post a0 a1 a2 a3 a4 a5 a6 a7 a8 M := by
  obtain ⟨s1, s2, s3, s4⟩ := S
  unfold wp_MO_title
  subst e0
  refine ⟨vp_in_nI (by omega) (by omega), fun M1 e1 => ?_⟩
  rw [nI_clamp (by omega), s2] at e1
  have S1 : tS M0 M1 l (t + 1) := by
    refine ⟨s1.trans (by rw [e1]; exact fr_upd (Or.inr (Or.inl rfl))), by rw [u_ne e1]; exact s2, fun k hk => by rw [u_ne e1]; exact s3 k hk, fun u hu => ?_⟩
    by_cases c : u = t
    · subst c; rw [u_at e1, ep]
    · rw [u_ne e1]; exact s4 u (by omega)
  unfold tit at H
  refine t_let S1 (by omega) (fun M2 S2 => ⟨fun c => ?_, fun c => ?_⟩)
  · rw [if_neg c] at H
    refine t_52 S2 (by simp only [List.length_append, List.length_cons, List.length_nil]; omega) (fun M3 S3 => H M3 ?_)
    simp only [List.append_assoc, List.append_nil, List.nil_append] at S3 ⊢
    exact S3
  · rw [if_pos c] at H
    refine t_let S2 (by simp only [List.length_append, List.length_cons, List.length_nil]; omega) (fun M3 S3 => t_let S3 (by simp only [List.length_append, List.length_cons, List.length_nil]; omega) (fun M4 S4 => t_let S4 (by simp only [List.length_append, List.length_cons, List.length_nil]; omega) (fun M5 S5 => t_let S5 (by simp only [List.length_append, List.length_cons, List.length_nil]; omega) (fun M6 S6 => t_let S6 (by simp only [List.length_append, List.length_cons, List.length_nil]; omega) (fun M7 S7 => t_52 S7 (by simp only [List.length_append, List.length_cons, List.length_nil]; omega) (fun M8 S8 => H M8 ?_))))))
    simp only [List.append_assoc, List.cons_append, List.nil_append] at S8 ⊢
    exact S8
theorem ini_ob {M : gMem} {cb o : Nat} (h3 : ∀ j, j < 4 → M (cb + 2) j = 0) (h4 : ∀ j, j < 4 → M (cb + 3) j = 1) (g3 : ∀ j, j < 8 → M 43 j = 0) (g4 : ∀ j, j < 8 → M 44 j = 1) (ho : o ≤ 1) (a : ∀ j, M cb j = 0) (b1 : M 46 o = 0) (b2 : M 54 o = 0) (b3 : M 60 o = 0) : rOb cb o M := ob_0 h3 h4 (fun j hj => g3 _ (by omega)) (fun j hj => g4 _ (by omega)) (a 4) (a 7) (a 9) b1 b2 b3
theorem pu_init : wp_MO_initB pInv (im_MO (mpN (im_OF_init_0 (mpN (fun _ _ => 0) 0)) 41)) := by
  have z0 : pz (im_MO (mpN (im_OF_init_0 (mpN (fun _ _ => 0) 0)) 41)) := pz_MO (pz_N (pz_0 (pz_N (fun _ _ _ => rfl))))
  have w4 : ∀ j, j < 4 → im_MO (mpN (im_OF_init_0 (mpN (fun _ _ => 0) 0)) 41) 4 j = 1 := fun j hj => by rw [v_MO (by omega), mpN_o (by omega)]; exact v_4 hj
  have w12 : ∀ j, j < 4 → im_MO (mpN (im_OF_init_0 (mpN (fun _ _ => 0) 0)) 41) 12 j = 1 := fun j hj => by rw [v_MO (by omega), mpN_o (by omega)]; exact v_12 hj
  have w32 : im_MO (mpN (im_OF_init_0 (mpN (fun _ _ => 0) 0)) 41) 32 0 = -1 := by rw [v_MO (by omega), mpN_o (by omega)]; exact v_32
  have w41 : im_MO (mpN (im_OF_init_0 (mpN (fun _ _ => 0) 0)) 41) 41 23 = -1 := v_MO23
  generalize im_MO (mpN (im_OF_init_0 (mpN (fun _ _ => 0) 0)) 41) = M0 at z0 w4 w12 w32 w41
  unfold wp_MO_initB wp_MO_bodyB
  refine pk_loop (fun k i M' => wl_MO_initB_289 pInv k (nI i) M') (fun i M' => fr (fun c j => c = 44 ∧ j < 8) M0 M' ∧ ∀ j, j < i → M' 44 j = 1) 8 0 M0 (by omega) ⟨fr.refl, fun j hj => by omega⟩ ?_ ?_
  · rintro k M1 ⟨h1, h2⟩
    unfold wl_MO_initB_289
    refine q_le (a := 8) (fun _ => ?_) (fun c => by omega)
    have S0 : tS M1 M1 [] 0 := ⟨fr.refl, by rw [h1 41 36 (by omega)]; exact z0 41 36 (by unfold spI; omega), fun k hk => absurd hk (by simp), fun u hu => by omega⟩
    refine t_title S0 (by omega) rfl (by decide) (by decide) (fun N0 S => ?_)
    refine t_title S (by omega) rfl (by decide) (by decide) (fun N1 S => ?_)
    refine t_title S (by omega) rfl (by decide) (by decide) (fun N2 S => ?_)
    refine t_title S (by omega) rfl (by decide) (by decide) (fun N3 S => ?_)
    refine t_title S (by omega) rfl (by decide) (by decide) (fun N4 S => ?_)
    refine t_title S (by omega) rfl (by decide) (by decide) (fun N5 S => ?_)
    refine t_title S (by omega) rfl (by decide) (by decide) (fun N6 S => ?_)
    refine t_title S (by omega) rfl (by decide) (by decide) (fun N7 S => ?_)
    refine t_title S (by omega) rfl (by decide) (by decide) (fun N8 S => ?_)
    refine t_title S (by omega) rfl (by decide) (by decide) (fun N9 S => ?_)
    refine t_title S (by omega) rfl (by decide) (by decide) (fun Na S => ?_)
    obtain ⟨s1, s2, s3, s4⟩ := S
    have sl : ∀ k, k < 93 → Na 63 k = (pTi.take 92 ++ [0]).getD k 0 := by
      intro k hk
      have := s3 k (Nat.lt_of_lt_of_le hk (by decide))
      rw [this]
      congr 1
    rw [show Na 41 36 = nI 93 from s2]
    rw [show nI 93 - (1 : Int32) = nI 92 from rfl, nI_clamp (by omega)]
    refine ⟨vp_in_nI (by omega) (by omega), fun Mb eb => ?_⟩
    rw [show Mb 41 36 = nI 93 by rw [u_ne eb]; exact s2, nI_clamp (by omega)]
    refine ⟨vp_in_nI (by omega) (by omega), fun Mc ec Md ed => ?_⟩
    have all : ∀ c j, c ≠ 63 → c ≠ 64 → ¬ (c = 41 ∧ j = 36) → Md c j = M1 c j := fun c j a1 a2 a3 => by rw [u_ne ed, u_ne ec, u_ne eb]; exact s1 c j (by unfold sTt; omega)
    have zz : ∀ c j, c ≠ 63 → c ≠ 64 → ¬ (c = 41 ∧ j = 36) → c ≠ 44 → ¬ spI c j → Md c j = 0 := fun c j a1 a2 a3 a4 a5 => by rw [all c j a1 a2 a3, h1 c j (by omega)]; exact z0 c j a5
    have m44 : ∀ j, j < 8 → Md 44 j = 1 := fun j hj => by rw [all 44 j (by omega) (by omega) (by omega)]; exact h2 j hj
    have f41 : ∀ j, j = 20 ∨ j = 22 → Md 41 j = 0 := fun j hj => zz 41 j (by omega) (by omega) (by omega) (by omega) (by unfold spI; omega)
    have cz : ∀ c j, c ≠ 4 → c ≠ 12 → c ≠ 32 → c ≠ 41 → c ≠ 44 → c ≠ 63 → c ≠ 64 → Md c j = 0 := fun c j b1 b2 b3 b4 b5 b6 b7 => zz c j b6 b7 (by omega) b5 (by unfold spI; omega)
    refine ⟨ini_ob (fun j hj => cz 3 j (by omega) (by omega) (by omega) (by omega) (by omega) (by omega) (by omega)) (fun j hj => ?_) (fun j hj => cz 43 j (by omega) (by omega) (by omega) (by omega) (by omega) (by omega) (by omega)) m44 (by omega) (fun j => cz 1 j (by omega) (by omega) (by omega) (by omega) (by omega) (by omega) (by omega)) (cz 46 _ (by omega) (by omega) (by omega) (by omega) (by omega) (by omega) (by omega)) (cz 54 _ (by omega) (by omega) (by omega) (by omega) (by omega) (by omega) (by omega)) (cz 60 _ (by omega) (by omega) (by omega) (by omega) (by omega) (by omega) (by omega)), ini_ob (fun j hj => cz 11 j (by omega) (by omega) (by omega) (by omega) (by omega) (by omega) (by omega)) (fun j hj => ?_) (fun j hj => cz 43 j (by omega) (by omega) (by omega) (by omega) (by omega) (by omega) (by omega)) m44 (by omega) (fun j => cz 9 j (by omega) (by omega) (by omega) (by omega) (by omega) (by omega) (by omega)) (cz 46 _ (by omega) (by omega) (by omega) (by omega) (by omega) (by omega) (by omega)) (cz 54 _ (by omega) (by omega) (by omega) (by omega) (by omega) (by omega) (by omega)) (cz 60 _ (by omega) (by omega) (by omega) (by omega) (by omega) (by omega) (by omega)), ⟨0, by omega, cz 17 1 (by omega) (by omega) (by omega) (by omega) (by omega) (by omega) (by omega), f41 22 (Or.inr rfl), fun k hk => by omega⟩, ⟨0, by omega, cz 0 8 (by omega) (by omega) (by omega) (by omega) (by omega) (by omega) (by omega), f41 20 (Or.inl rfl), fun k hk => by omega⟩, ?_, ?_, ⟨fun k hk => ?_, fun t ht => ?_⟩, fun k hk => ?_⟩
    · show Md 4 j = 1
      rw [all 4 j (by omega) (by omega) (by omega), h1 4 j (by omega)]; exact w4 j hj
    · show Md 12 j = 1
      rw [all 12 j (by omega) (by omega) (by omega), h1 12 j (by omega)]; exact w12 j hj
    · show Md 32 0 = Md 41 23
      rw [all 32 0 (by omega) (by omega) (by omega), h1 32 0 (by omega), all 41 23 (by omega) (by omega) (by omega), h1 41 23 (by omega), w32, w41]
    · intro c hc j
      have hc' : c ≠ 4 ∧ c ≠ 12 ∧ c ≠ 32 ∧ c ≠ 41 ∧ c ≠ 44 ∧ c ≠ 63 ∧ c ≠ 64 := by simp only [List.mem_cons, List.not_mem_nil, or_false] at hc; omega
      rw [cz c j hc'.1 hc'.2.1 hc'.2.2.1 hc'.2.2.2.1 hc'.2.2.2.2.1 hc'.2.2.2.2.2.1 hc'.2.2.2.2.2.2]
      decide
    · rw [u_ne ed]
      by_cases c1 : k = 93
      · subst c1; rw [u_at ec]; decide
      · rw [u_ne ec]
        by_cases c2 : k = 92
        · subst c2; rw [u_at eb]; decide
        · rw [u_ne eb, sl k (by omega)]
          have : ∀ k, k < 92 → (pTi.take 92 ++ [0]).getD k 0 = pTi.getD k 0 := by decide
          exact this k (by omega)
    · rw [u_ne ed, u_ne ec, u_ne eb]; exact s4 t ht
    · rw [cz 46 1 (by omega) (by omega) (by omega) (by omega) (by omega) (by omega) (by omega), Int32.toInt_zero] at hk; omega
  · rintro k i M1 hi ⟨h1, h2⟩ K
    unfold wl_MO_initB_289
    refine q_le (a := 8) (fun c => by omega) (fun _ => ⟨vp_in_nI (by omega) (by omega), fun M2 e2 => q_x ?_⟩)
    rw [nI_clamp (by omega)] at e2
    rw [nI_1]
    refine K M2 ⟨h1.trans (by rw [e2]; exact fr_upd ⟨rfl, hi⟩), fun j hj => ?_⟩
    by_cases c : j = i
    · subst c; exact u_at e2
    · rw [u_ne e2]; exact h2 j (by omega)
end
