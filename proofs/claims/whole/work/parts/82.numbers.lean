/-! what entries say: numbers, what is missing, lengths -/
def tSo (t : Nat) : Nat := [1, 1, 1, 8, 1, 4, 4, 4, 2, 3, 3].getD t 0
def tFl (t : Nat) : Nat := [6, 2, 3, 3, 0, 64, 64, 64, 0, 0, 0].getD t 0
def tUn (t : Nat) : Nat := [0, 0, 0, 0, 2, 12, 12, 12, 16, 0, 0].getD t 0
theorem tSo_e : ∀ t, t < 11 → gTb3.getD t 0 = nI (tSo t) ∧ tSo t < 10 := by decide
theorem tFl_e : ∀ t, t < 11 → gTb1.getD t 0 = nI (tFl t) ∧ tFl t < 70 := by decide
theorem tUn_e : ∀ t, t < 11 → gTb4.getD t 0 = nI (tUn t) ∧ tUn t < 20 := by decide
theorem tSo_m : ∀ t, t < 11 → tSo t = if t = 3 then 8 else if 5 ≤ t ∧ t < 8 then 4 else if t = 8 then 2 else if t ≤ 8 then 1 else 3 := by decide
theorem tFl_m : ∀ t, t < 11 → tFl t = if t = 0 then 6 else if t = 1 then 2 else if t < 4 then 3 else if 5 ≤ t ∧ t < 8 then 64 else 0 := by decide
theorem tUn_m : ∀ t, t < 11 → tUn t = if t = 4 then 2 else if 5 ≤ t ∧ t < 8 then 12 else if t = 8 then 16 else 0 := by decide
theorem m_sortOf {M : gMem} {post : Int32 → gMem → Prop} {t : Nat} (ht : t < 11) (H : post (nI (tSo t)) M) : wp_MO_sortOf post (nI t) M := by
  rw [tSo_m t ht] at H
  have fin : t ≠ 3 → ¬ (5 ≤ t ∧ t < 8) → wj_MO_sortOf_25 post (nI t) M := by
    intro c1 c2
    rw [if_neg c1, if_neg c2] at H
    refine q_ne (b := 8) (fun c => q_le (b := 8) (fun d => ?_) (fun d => ?_)) (fun c => ?_)
    · rw [if_neg c, if_pos d] at H; exact H
    · rw [if_neg c, if_neg (by omega)] at H; exact H
    · rw [if_pos c] at H; exact H
  refine q_ne (b := 3) (fun c => q_lt (b := 5) (fun d => fin c (by omega)) (fun d => q_le (a := 8) (fun e => fin c (by omega)) (fun e => ?_))) (fun c => ?_)
  · rw [if_neg c, if_pos ⟨d, e⟩] at H; exact H
  · rw [if_pos c] at H; exact H
theorem m_flagsOf {M : gMem} {post : Int32 → gMem → Prop} {t : Nat} (ht : t < 11) (H : post (nI (tFl t)) M) : wp_MO_flagsOf post (nI t) M := by
  rw [tFl_m t ht] at H
  refine q_ne (b := 0) (fun c => q_ne (b := 1) (fun d => q_le (a := 4) (fun e => q_lt (b := 5) (fun f => ?_) (fun f => q_le (a := 8) (fun g => ?_) (fun g => ?_))) (fun e => ?_)) (fun d => ?_)) (fun c => ?_)
  · rw [if_neg c, if_neg d, if_neg (by omega), if_neg (by omega)] at H; exact H
  · rw [if_neg c, if_neg d, if_neg (by omega), if_neg (by omega)] at H; exact H
  · rw [if_neg c, if_neg d, if_neg (by omega), if_pos (by omega)] at H; exact H
  · rw [if_neg c, if_neg d, if_pos (by omega)] at H; exact H
  · rw [if_neg c, if_pos d] at H; exact H
  · rw [if_pos c] at H; exact H
theorem m_eachOf {M : gMem} {post : Int32 → gMem → Prop} {t : Nat} (ht : t < 11) (H : post (nI (tUn t)) M) : wp_MO_eachOf post (nI t) M := by
  rw [tUn_m t ht] at H
  have fin : t ≠ 4 → ¬ (5 ≤ t ∧ t < 8) → wj_MO_eachOf_25 post (nI t) M := by
    intro c1 c2
    rw [if_neg c1, if_neg c2] at H
    refine q_ne (b := 8) (fun c => ?_) (fun c => ?_)
    · rw [if_neg c] at H; exact H
    · rw [if_pos c] at H; exact H
  refine q_ne (b := 4) (fun c => q_lt (b := 5) (fun d => fin c (by omega)) (fun d => q_le (a := 8) (fun e => fin c (by omega)) (fun e => ?_))) (fun c => ?_)
  · rw [if_neg c, if_pos ⟨d, e⟩] at H; exact H
  · rw [if_pos c] at H; exact H
theorem k_isRela {M : gMem} {post : Bool → gMem → Prop} {t : Nat} (ht : t < 16) (H1 : 5 ≤ t ∧ t < 8 → post true M) (H2 : ¬ (5 ≤ t ∧ t < 8) → post false M) : wp_OF_isRela post (nI t) M := q_lt (b := 5) (fun c => H2 (by omega)) (fun c => q_le (a := 8) (fun d => H2 (by omega)) (fun d => H1 (by omega)))
theorem eo_in {q : Nat → Nat} : ∀ {e p : Nat}, eo q e p ≠ 0 → 1 ≤ eo q e p ∧ eo q e p < e ∧ q (eo q e p) = p := by
  intro e
  induction e with
  | zero => intro p h; exact absurd rfl h
  | succ k ih =>
    intro p h
    unfold eo at h ⊢
    by_cases c : 1 ≤ k ∧ q k = p
    · rw [if_pos c]; exact ⟨c.1, by omega, c.2⟩
    · rw [if_neg c] at h ⊢
      have := ih h
      exact ⟨this.1, by omega, this.2.2⟩
theorem eo_q {q : Nat → Nat} : ∀ {E : Nat}, (∀ k, 1 ≤ k → k < E → eo q k (q k) = 0) → ∀ e, 1 ≤ e → e < E → eo q E (q e) = e := by
  intro E
  induction E with
  | zero => intro _ e h1 h2; omega
  | succ k ih =>
    intro h e h1 h2
    unfold eo
    by_cases c : e = k
    · rw [if_pos ⟨by omega, by rw [c]⟩, c]
    · have he := ih (fun j a1 a2 => h j a1 (by omega)) e h1 (by omega)
      by_cases d : 1 ≤ k ∧ q k = q e
      · exfalso
        have := h k d.1 (by omega)
        rw [d.2, he] at this
        omega
      · rw [if_neg d]; exact he
/-- all entries are named for different parts -/
def qO (q : Nat → Nat) (E : Nat) : Prop := (∀ e, 1 ≤ e → e < E → q e < 11 ∧ eo q E (q e) = e) ∧ ∀ p, eo q E p ≠ 0 → 1 ≤ eo q E p ∧ eo q E p < E ∧ q (eo q E p) = p
theorem qO_of {b : Nat → Fin 256} {T E N : Nat} (h : (xLb b T E N).1 = 0) : qO (qp b T N) E := by
  have hk : ∀ k, 1 ≤ k → k < E → qp b T N k ≠ 11 ∧ eo (qp b T N) k (qp b T N k) = 0 := by
    intro k h1 h2
    have := fs_0 h k h1 (by omega)
    unfold yL at this
    by_cases c : qp b T N k = 11
    · rw [if_pos c] at this; exact absurd this (by simp)
    · rw [if_neg c] at this
      by_cases d : eo (qp b T N) k (qp b T N k) = 0
      · exact ⟨c, d⟩
      · rw [if_neg d] at this; exact absurd this (by simp)
  refine ⟨fun e h1 h2 => ⟨?_, eo_q (fun k a1 a2 => (hk k a1 a2).2) e h1 h2⟩, fun p hp => eo_in hp⟩
  have := (hk e h1 h2).1
  have := qp_le (b := b) (T := T) (N := N) (e := e)
  omega
def ln (b : Nat → Fin 256) (T o : Nat) : Fin 4294967296 := if o = 0 then 0 else nu b T o 5
def bg (b : Nat → Fin 256) (T o : Nat) : Fin 4294967296 := if o = 0 then 0 else nu b T o 4
def lkb (o8 o9 p link : Nat) : Bool := if 5 ≤ p ∧ p < 8 then decide (link ≠ 0 ∧ link = o8) else if p = 8 then decide (link ≠ 0 ∧ link = o9) else decide (link = 0)
def inb (oi p info : Nat) : Bool := if 5 ≤ p ∧ p < 8 then decide (info ≠ 0 ∧ info = oi) else if p = 8 then true else decide (info = 0)
def yW (b : Nat → Fin 256) (T e p o8 o9 oi : Nat) : Nat := if (nu b T e 1).1 = tSo p then (if (nu b T e 2).1 = tFl p then (if (nu b T e 3).1 = 0 then (if lkb o8 o9 p (nu b T e 6).1 = true then (if inb oi p (nu b T e 7).1 = true then (if (nu b T e 9).1 = tUn p then 10 else 9) else 7) else 6) else 3) else 2) else 1
def wx (k : Nat) : Int32 := if k = 10 then -1 else nI k
theorem wx_e {k : Nat} {A B : Prop} (f : k = 10 → A) (g : k ≠ 10 → B) (hk : k < 2 ^ 31 := by omega) : (wx k = (-1 : Int32) → A) ∧ (¬ wx k = (-1 : Int32) → B) := by
  unfold wx
  by_cases c : k = 10
  · rw [if_pos c]; exact ⟨fun _ => f c, fun d => absurd rfl d⟩
  · rw [if_neg c]
    refine ⟨fun d => ?_, fun _ => g c⟩
    exfalso
    rw [ti_eq, ti_nI hk, show ((-1 : Int32)).toInt = -1 from rfl] at d
    omega
theorem yW_lt {b : Nat → Fin 256} {T e p o8 o9 oi : Nat} : yW b T e p o8 o9 oi ≤ 10 := by
  unfold yW
  repeat' split
  all_goals omega
theorem cl_8 : ((8 : Int32)).toNatClampNeg = 8 := rfl
theorem cl_9 : ((9 : Int32)).toNatClampNeg = 9 := rfl
theorem cl_10 : ((10 : Int32)).toNatClampNeg = 10 := rfl
theorem in_8 : vp_in (8 : Int32) 11 := by unfold vp_in; decide
theorem in_9 : vp_in (9 : Int32) 11 := by unfold vp_in; decide
theorem in_10 : vp_in (10 : Int32) 11 := by unfold vp_in; decide
theorem k_link {M : gMem} {post : Bool → gMem → Prop} {p o8 o9 link : Nat} (hp : p < 11) (hl : link < 4294967296) (h8 : M 35 8 = nI o8) (h9 : M 35 9 = nI o9) (b8 : o8 < 16) (b9 : o9 < 16) (H : post (lkb o8 o9 p link) M) : wp_DI_linkIsRight post (nI p) (lN link) M := by
  unfold wp_DI_linkIsRight
  unfold lkb at H
  rw [cl_8, cl_9]
  refine k_isRela (by omega) (fun c => q_f (by decide) ?_) (fun c => q_t (by decide) ?_)
  · rw [if_pos c] at H
    rw [h8, nI_l (by omega)]
    refine ql_eq (b := 0) (fun d => ?_) (fun d => ⟨in_8, ql_ne (fun e => ?_) (fun e => ?_)⟩)
    · rw [decide_eq_false (by omega)] at H; exact H
    · rw [decide_eq_false (by omega)] at H; exact H
    · rw [decide_eq_true ⟨d, e⟩] at H; exact H
  · rw [if_neg c] at H
    refine q_ne (b := 8) (fun d => ql_ne (b := 0) (fun e => ?_) (fun e => ?_)) (fun d => ?_)
    · rw [if_neg d, decide_eq_false e] at H; exact H
    · rw [if_neg d, decide_eq_true e] at H; exact H
    · rw [if_pos d] at H
      rw [h9, nI_l (by omega)]
      refine ql_eq (b := 0) (fun d => ?_) (fun d => ⟨in_9, ql_ne (fun e => ?_) (fun e => ?_)⟩)
      · rw [decide_eq_false (by omega)] at H; exact H
      · rw [decide_eq_false (by omega)] at H; exact H
      · rw [decide_eq_true ⟨d, e⟩] at H; exact H
theorem k_info {M : gMem} {post : Bool → gMem → Prop} {p oi info : Nat} (hp : p < 11) (hl : info < 4294967296) (hi : 5 ≤ p → M 35 (p - 5) = nI oi) (bi : oi < 16) (H : post (inb oi p info) M) : wp_DI_infoIsRight post (nI p) (lN info) M := by
  unfold wp_DI_infoIsRight
  unfold inb at H
  refine k_isRela (by omega) (fun c => q_f (by decide) ?_) (fun c => q_t (by decide) ?_)
  · rw [if_pos c] at H
    rw [show nI p - (5 : Int32) = nI (p - 5) from pk_sub (b := 5) (by omega), nI_clamp (by omega), hi c.1, nI_l (by omega)]
    refine ql_eq (b := 0) (fun d => ?_) (fun d => ⟨vp_in_nI (by omega) (by omega), ql_ne (fun e => ?_) (fun e => ?_)⟩)
    · rw [decide_eq_false (by omega)] at H; exact H
    · rw [decide_eq_false (by omega)] at H; exact H
    · rw [decide_eq_true ⟨d, e⟩] at H; exact H
  · rw [if_neg c] at H
    refine q_eq (b := 8) (fun d => ?_) (fun d => ql_ne (b := 0) (fun e => ?_) (fun e => ?_))
    · rw [if_pos d] at H; exact H
    · rw [if_neg d, decide_eq_false e] at H; exact H
    · rw [if_neg d, decide_eq_true e] at H; exact H
theorem k_wrongN {n T E N : Nat} {b : Nat → Fin 256} {M : gMem} {post : Int32 → gMem → Prop} {e p o8 o9 oi : Nat} (S : kS n b T E N M) (he : e < E) (hp : p < 11) (h8 : M 35 8 = nI o8) (h9 : M 35 9 = nI o9) (hi : 5 ≤ p → M 35 (p - 5) = nI oi) (b8 : o8 < 16) (b9 : o9 < 16) (bi : oi < 16) (H : post (wx (yW b T e p o8 o9 oi)) M) : wp_DI_wrongNumber post (nI e) (nI p) M := by
  have t := S.2.1
  unfold hT at t
  unfold wp_DI_wrongNumber
  unfold yW at H
  have i11 : vp_in (nI p) 11 := vp_in_nI hp (by omega)
  have c1 := tSo_e p hp
  have c2 := tFl_e p hp
  have c3 := tUn_e p hp
  rw [nI_clamp (by omega), c1.1, c2.1, c3.1, nI_l (by omega), nI_l (by omega), nI_l (by omega)]
  refine k_num (i := 1) S ⟨i11, ql_eq (fun d1 => ?_) (fun d1 => ?_)⟩
  · rw [if_pos d1] at H
    refine k_num (i := 2) S ⟨i11, ql_eq (fun d2 => ?_) (fun d2 => ?_)⟩
    · rw [if_pos d2] at H
      refine k_num (i := 3) S (ql_eq (b := 0) (fun d3 => ?_) (fun d3 => ?_))
      · rw [if_pos d3] at H
        refine k_num (i := 6) S (k_link hp (by omega) h8 h9 b8 b9 (q_bn (fun d6 => ?_) (fun d6 => ?_)))
        · rw [if_pos d6] at H
          refine k_num (i := 7) S (k_info hp (by omega) hi bi (q_bn (fun d7 => ?_) (fun d7 => ?_)))
          · rw [if_pos d7] at H
            refine k_num (i := 9) S ⟨i11, ql_eq (fun d9 => ?_) (fun d9 => ?_)⟩
            · rw [if_pos d9] at H; exact H
            · rw [if_neg d9] at H; exact H
          · rw [if_neg (by rw [d7]; simp)] at H; exact H
        · rw [if_neg (by rw [d6]; simp)] at H; exact H
      · rw [if_neg d3] at H; exact H
    · rw [if_neg d2] at H; exact H
  · rw [if_neg d1] at H; exact H
def yN (b : Nat → Fin 256) (T E : Nat) (q : Nat → Nat) (e : Nat) : Nat × Nat := if yW b T e (q e) (eo q E 8) (eo q E 9) (eo q E (q e - 5)) = 10 then (0, 0) else (17, T + 40 * e + 4 * yW b T e (q e) (eo q E 8) (eo q E 9) (eo q E (q e - 5)))
theorem k_numbers {n T E N : Nat} {b : Nat → Fin 256} {M : gMem} {post : Int32 → gMem → Prop} (S : kS n b T E N M) (L : lV (qp b T N) E M) (Q : qO (qp b T N) E) : ∀ d e, e + d = E → 1 ≤ e → post (nI (fs (yN b T E (qp b T N)) d e).1) (tl M (fs (yN b T E (qp b T N)) d e)) → wl_DI_numbersFault_2 post (d + 1) (nI e) M := by
  have t := S.2.1
  unfold hT at t
  intro d
  induction d with
  | zero =>
    intro e he h1 H
    unfold wl_DI_numbersFault_2
    rw [S.2.2.2.1]
    exact q_le (fun c => H) (fun c => by omega)
  | succ d ih =>
    intro e he h1 H
    unfold wl_DI_numbersFault_2
    have hq := Q.1 e h1 (by omega)
    rw [S.2.2.2.1, nI_clamp (by omega), L.2 e h1 (by omega)]
    unfold fs at H
    have l8 := eo_lt (q := qp b T N) (e := E) (p := 8) (by omega)
    have l9 := eo_lt (q := qp b T N) (e := E) (p := 9) (by omega)
    have li := eo_lt (q := qp b T N) (e := E) (p := qp b T N e - 5) (by omega)
    have lw := yW_lt (b := b) (T := T) (e := e) (p := qp b T N e) (o8 := eo (qp b T N) E 8) (o9 := eo (qp b T N) E 9) (oi := eo (qp b T N) E (qp b T N e - 5))
    refine q_le (fun c => by omega) (fun c => q_le (a := 16) (fun c => by omega) (fun c2 => ⟨vp_in_nI (by omega) (by omega), k_wrongN S (by omega) (by omega) (L.1 8 (by omega)) (L.1 9 (by omega)) (fun _ => L.1 _ (by omega)) (by omega) (by omega) (by omega) (wx_e (fun c3 => q_x ?_) (fun c3 => ?_))⟩))
    · rw [yN, if_pos c3, if_pos rfl] at H
      rw [nI_1]
      exact ih (e + 1) (by omega) (by omega) H
    · rw [yN, if_neg c3, if_neg (by simp)] at H
      rw [wx, if_neg c3]
      exact k_tellE (f := 17) S H
def yMi (o8 o9 o10 N : Nat) : Nat × Nat := if o8 = 0 then (18, 50) else if o9 = 0 then (18, 50) else if o10 = 0 then (18, 50) else if o10 = N then (0, 0) else (18, 50)
theorem k_missing {n T E N : Nat} {b : Nat → Fin 256} {M : gMem} {post : Int32 → gMem → Prop} {o8 o9 o10 : Nat} (S : kS n b T E N M) (h8 : M 35 8 = nI o8) (h9 : M 35 9 = nI o9) (h10 : M 35 10 = nI o10) (b8 : o8 < 16) (b9 : o9 < 16) (b10 : o10 < 16) (H : post (nI (yMi o8 o9 o10 N).1) (tl M (yMi o8 o9 o10 N))) : wp_DI_missingFault post M := by
  have t := S.2.1
  unfold hT at t
  unfold wp_DI_missingFault wj_DI_missingFault_34 wj_DI_missingFault_35
  unfold yMi at H
  rw [cl_8, cl_9, cl_10, h8, h9, h10, S.2.2.2.2]
  refine ⟨in_8, q_eq (b := 0) (fun c => q_t rfl ?_) (fun c => ⟨in_9, q_eq (b := 0) (fun d => q_t rfl ?_) (fun d => ⟨in_10, q_eq (b := 0) (fun e => q_t rfl ?_) (fun e => q_f (by decide) ⟨in_10, q_ne (fun f => ?_) (fun f => ?_)⟩)⟩)⟩)⟩
  · rw [if_pos c] at H; exact k_tell (f := 18) (p := 50) H
  · rw [if_neg c, if_pos d] at H; exact k_tell (f := 18) (p := 50) H
  · rw [if_neg c, if_neg d, if_pos e] at H; exact k_tell (f := 18) (p := 50) H
  · rw [if_neg c, if_neg d, if_neg e, if_neg f] at H; exact k_tell (f := 18) (p := 50) H
  · rw [if_neg c, if_neg d, if_neg e, if_pos f] at H; exact H
def lok (p m : Nat) : Prop := if 5 ≤ p ∧ p < 8 then m % 12 = 0 else if p = 3 then m ≤ 4096 else if p = 4 then m % 2 = 0 ∧ m ≤ 2048 else if p = 8 then m % 16 = 0 ∧ 16 ≤ m ∧ m ≤ 1616 else if 3 < p then True else m ≤ 2048
theorem k_lmb {M : gMem} {post : Bool → gMem → Prop} {p m : Nat} (hp : p < 11) (hm : m < 4294967296) (H1 : lok p m → post true M) (H2 : ¬ lok p m → post false M) : wp_DI_lengthMayBe post (nI p) (lN m) M := by
  unfold wp_DI_lengthMayBe
  rw [show lN m - lN m / (2 : Int64) * (2 : Int64) = lN (m % 2) from pk_lRem (b := 2) (by omega) (by omega) (by omega), show lN m - lN m / (16 : Int64) * (16 : Int64) = lN (m % 16) from pk_lRem (b := 16) (by omega) (by omega) (by omega), show lN m - lN m / (12 : Int64) * (12 : Int64) = lN (m % 12) from pk_lRem (b := 12) (by omega) (by omega) (by omega)]
  unfold lok at H1 H2
  refine k_isRela (by omega) (fun c => q_f (by decide) ?_) (fun c => q_t (by decide) ?_)
  · rw [if_pos c] at H1 H2
    exact ql_ne (b := 0) (fun d => H2 d) (fun d => H1 d)
  · rw [if_neg c] at H1 H2
    refine q_eq (b := 3) (fun d => ?_) (fun d => q_eq (b := 4) (fun e => ?_) (fun e => q_eq (b := 8) (fun f => ?_) (fun f => q_lt (a := 3) (fun g => ?_) (fun g => ?_))))
    · rw [if_pos d] at H1 H2
      exact ql_lt (a := 4096) (fun z => H2 (by omega)) (fun z => H1 (by omega))
    · rw [if_neg d, if_pos e] at H1 H2
      exact ql_ne (b := 0) (fun z => H2 (by omega)) (fun z => ql_lt (a := 2048) (fun y => H2 (by omega)) (fun y => H1 (by omega)))
    · rw [if_neg d, if_neg e, if_pos f] at H1 H2
      exact ql_ne (b := 0) (fun z => H2 (by omega)) (fun z => ql_lt (b := 16) (fun y => H2 (by omega)) (fun y => ql_lt (a := 1616) (fun x => H2 (by omega)) (fun x => H1 (by omega))))
    · rw [if_neg d, if_neg e, if_neg f, if_pos g] at H1
      exact H1 trivial
    · rw [if_neg d, if_neg e, if_neg f, if_neg (by omega)] at H1 H2
      exact ql_lt (a := 2048) (fun z => H2 (by omega)) (fun z => H1 (by omega))
def rs (b : Nat → Fin 256) (T : Nat) (q : Nat → Nat) : Nat → Nat
  | 0 => 0
  | k + 1 => rs b T q k + if 1 ≤ k ∧ 5 ≤ q k ∧ q k < 8 then (nu b T k 5).1 / 12 else 0
theorem rs_lt {b : Nat → Fin 256} {T : Nat} {q : Nat → Nat} : ∀ e, rs b T q e ≤ e * 4294967296 := by
  intro e
  induction e with
  | zero => exact Nat.le_refl 0
  | succ k ih =>
    have h2 : (k + 1) * 4294967296 = k * 4294967296 + 4294967296 := Nat.succ_mul k _
    have h3 : (if 1 ≤ k ∧ 5 ≤ q k ∧ q k < 8 then (nu b T k 5).1 / 12 else 0) ≤ 4294967296 := by
      have := (nu b T k 5).2
      split
      · omega
      · omega
    rw [h2]
    exact Nat.add_le_add ih h3
def lokD (p m : Nat) : Decidable (lok p m) := by unfold lok; exact inferInstance
def yG (b : Nat → Fin 256) (T : Nat) (q : Nat → Nat) (e : Nat) : Nat × Nat := @ite _ (lok (q e) (nu b T e 5).1) (lokD _ _) (if rs b T q (e + 1) ≤ 300 then (0, 0) else (19, T + 40 * e + 4 * 5)) (19, T + 40 * e + 4 * 5)
theorem yG_0 {b : Nat → Fin 256} {T : Nat} {q : Nat → Nat} {e : Nat} (h1 : lok (q e) (nu b T e 5).1) (h2 : rs b T q (e + 1) ≤ 300) : yG b T q e = (0, 0) := by
  unfold yG
  rw [if_pos h1, if_pos h2]
theorem yG_1 {b : Nat → Fin 256} {T : Nat} {q : Nat → Nat} {e : Nat} (h : ¬ lok (q e) (nu b T e 5).1 ∨ ¬ rs b T q (e + 1) ≤ 300) : yG b T q e = (19, T + 40 * e + 4 * 5) := by
  unfold yG
  rcases h with h | h
  · rw [if_neg h]
  · by_cases c : lok (q e) (nu b T e 5).1
    · rw [if_pos c, if_neg h]
    · rw [if_neg c]
theorem k_lengths {n T E N : Nat} {b : Nat → Fin 256} {M : gMem} {post : Int32 → gMem → Prop} (S : kS n b T E N M) (L : lV (qp b T N) E M) (Q : qO (qp b T N) E) : ∀ d e, e + d = E → 1 ≤ e → post (nI (fs (yG b T (qp b T N)) d e).1) (tl M (fs (yG b T (qp b T N)) d e)) → wl_DI_lengthsFault_4 post (d + 1) (lN (rs b T (qp b T N) e)) (nI e) M := by
  have t := S.2.1
  unfold hT at t
  intro d
  induction d with
  | zero =>
    intro e he h1 H
    unfold wl_DI_lengthsFault_4
    rw [S.2.2.2.1]
    exact q_le (fun c => H) (fun c => by omega)
  | succ d ih =>
    intro e he h1 H
    unfold wl_DI_lengthsFault_4
    have hq := Q.1 e h1 (by omega)
    have hr := rs_lt (b := b) (T := T) (q := qp b T N) (e + 1)
    rw [S.2.2.2.1, nI_clamp (by omega)]
    unfold fs at H
    have fin : wj_DI_lengthsFault_47 post (wl_DI_lengthsFault_4 post (d + 1)) (lN (rs b T (qp b T N) (e + 1))) (nI e) (lN (nu b T e 5).1) M := by
      unfold wj_DI_lengthsFault_47
      rw [nI_clamp (by omega), L.2 e h1 (by omega)]
      refine ⟨vp_in_nI (by omega) (by omega), k_lmb (by omega) (by omega) (fun c => q_f (by decide) (ql_le (b := 300) (fun c2 => q_x ?_) (fun c2 => ?_))) (fun c => q_t (by decide) ?_)⟩
      · rw [yG_0 c c2, if_pos rfl] at H
        rw [nI_1]
        exact ih (e + 1) (by omega) (by omega) H
      · rw [yG_1 (Or.inr (by omega)), if_neg (by simp)] at H
        exact k_tellE (f := 19) (i := 5) S H
      · rw [yG_1 (Or.inl c), if_neg (by simp)] at H
        exact k_tellE (f := 19) (i := 5) S H
    refine q_le (fun c => by omega) (fun c => q_le (a := 16) (fun c => by omega) (fun c2 => k_num (i := 5) S ⟨vp_in_nI (by omega) (by omega), ?_⟩))
    rw [L.2 e h1 (by omega)]
    refine k_isRela (by omega) (fun c => q_f (by decide) (q_x ?_)) (fun c => q_t (by decide) ?_)
    · rw [show lN (nu b T e 5).1 / (12 : Int64) = lN ((nu b T e 5).1 / 12) from pk_lDiv (b := 12) (by omega) (by omega) (by omega), lN_add]
      unfold rs at fin
      rw [if_pos ⟨h1, c⟩] at fin
      exact fin
    · unfold rs at fin
      rw [if_neg (fun z => c z.2)] at fin
      exact fin
def xNu (b : Nat → Fin 256) (T E N : Nat) : Nat × Nat := fs (yN b T E (qp b T N)) (E - 1) 1
def xLe (b : Nat → Fin 256) (T E N : Nat) : Nat × Nat := fs (yG b T (qp b T N)) (E - 1) 1
