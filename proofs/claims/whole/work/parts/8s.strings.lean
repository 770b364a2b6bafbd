/-! write: tables of strings -/
section
variable {M : gMem}
def mtB (T w : Nat → Int32) (m p : Nat) : Bool := decide (T (p + m) = 0) && (List.range m).all (fun i => decide (T (p + i) = w i))
theorem mtB_t {T w : Nat → Int32} {m p : Nat} : mtB T w m p = true ↔ T (p + m) = 0 ∧ ∀ i, i < m → T (p + i) = w i := by
  unfold mtB
  rw [Bool.and_eq_true, List.all_eq_true, decide_eq_true_iff]
  constructor
  · rintro ⟨h1, h2⟩
    exact ⟨h1, fun i hi => of_decide_eq_true (h2 i (List.mem_range.mpr hi))⟩
  · rintro ⟨h1, h2⟩
    exact ⟨h1, fun i hi => decide_eq_true (h2 i (List.mem_range.mp hi))⟩
theorem mtB_f {T w : Nat → Int32} {m p : Nat} (h : ¬ (T (p + m) = 0 ∧ ∀ i, i < m → T (p + i) = w i)) : mtB T w m p = false := by
  cases e : mtB T w m p
  · rfl
  · exact absurd (mtB_t.mp e) h
def fnd (T w : Nat → Int32) (m L : Nat) : Nat → Nat → Nat
  | 0, _ => L
  | d + 1, p => if L ≤ p + m then L else if mtB T w m p = true then p else fnd T w m L d (p + 1)
theorem fnd_le {T w : Nat → Int32} {m L : Nat} (hm : 1 ≤ m) : ∀ d p, fnd T w m L d p ≤ L := by
  intro d
  induction d with
  | zero => intro p; exact Nat.le_refl _
  | succ d ih =>
    intro p
    unfold fnd
    by_cases c : L ≤ p + m
    · rw [if_pos c]; exact Nat.le_refl _
    · rw [if_neg c]
      split
      · omega
      · exact ih (p + 1)
/-- the place of a string, and the table behind it -/
def plc (S : (Nat → Int32) × Nat) (w : Nat → Int32) (m : Nat) : Nat := fnd S.1 w m S.2 S.2 1
def app (T w : Nat → Int32) (m L : Nat) (k : Nat) : Int32 := if L ≤ k ∧ k < L + m then w (k - L) else if k = L + m then 0 else T k
def stp (S : (Nat → Int32) × Nat) (w : Nat → Int32) (m : Nat) : (Nat → Int32) × Nat := if plc S w m < S.2 then S else (app S.1 w m S.2, S.2 + m + 1)
def sts (u : Nat → Bool) (wf : Nat → Nat → Int32) (ml : Nat → Nat) : Nat → (Nat → Int32) × Nat
  | 0 => (fun _ => 0, 1)
  | r + 1 => if u r = true then stp (sts u wf ml r) (wf r) (ml r) else sts u wf ml r
theorem stp_L {S : (Nat → Int32) × Nat} {w : Nat → Int32} {m : Nat} : S.2 ≤ (stp S w m).2 ∧ (stp S w m).2 ≤ S.2 + m + 1 := by
  unfold stp
  split
  · omega
  · show S.2 ≤ S.2 + m + 1 ∧ S.2 + m + 1 ≤ S.2 + m + 1
    omega
theorem sts_L {u : Nat → Bool} {wf : Nat → Nat → Int32} {ml : Nat → Nat} {b : Nat} : ∀ {r}, (∀ k, k < r → ml k ≤ b) → 1 ≤ (sts u wf ml r).2 ∧ (sts u wf ml r).2 ≤ 1 + (b + 1) * r := by
  intro r
  induction r with
  | zero => intro _; exact ⟨Nat.le_refl _, by show 1 ≤ _; omega⟩
  | succ r ih =>
    intro h
    have i := ih (fun k hk => h k (by omega))
    have hr := h r (by omega)
    have := stp_L (S := sts u wf ml r) (w := wf r) (m := ml r)
    have e : (b + 1) * (r + 1) = (b + 1) * r + (b + 1) := by rw [Nat.mul_add, Nat.mul_one]
    unfold sts
    split
    · omega
    · omega
theorem sts_1 {u : Nat → Bool} {wf : Nat → Nat → Int32} {ml : Nat → Nat} : ∀ {r}, 1 ≤ (sts u wf ml r).2 := by
  intro r
  induction r with
  | zero => exact Nat.le_refl _
  | succ r ih =>
    unfold sts
    split
    · have := stp_L (S := sts u wf ml r) (w := wf r) (m := ml r); omega
    · exact ih
theorem plc_lt {S : (Nat → Int32) × Nat} {w : Nat → Int32} {m : Nat} (hm : 1 ≤ m) : plc S w m ≤ S.2 := fnd_le hm _ _
theorem sts_0 {u : Nat → Bool} {wf : Nat → Nat → Int32} {ml : Nat → Nat} : ∀ {r}, (sts u wf ml r).1 0 = 0 := by
  intro r
  induction r with
  | zero => rfl
  | succ r ih =>
    unfold sts
    split
    · unfold stp
      split
      · exact ih
      · show app _ _ _ _ 0 = 0
        unfold app
        have h1 : 1 ≤ (sts u wf ml r).2 := sts_1
        rw [if_neg (by omega), if_neg (by omega)]
        exact ih
    · exact ih

/-! the class: names -/
def sn_7 (c j : Nat) : Prop := c = 21 ∨ (c = 20 ∧ j = 1)
theorem w_stand_n_7 {post : Bool → gMem → Prop} {T w : Nat → Int32} {m L p o : Nat} (hT : ∀ k, k < L → M 21 k = T k) (hw : ∀ i, i < m → M 7 (o + i) = w i) (hp : p + m < L) (hL : L ≤ 1701) (ho : o + m ≤ 1600) (h1 : (∀ i, i < m → T (p + i) = w i) → post true M) (h2 : ¬ (∀ i, i < m → T (p + i) = w i) → post false M) : wp_ST_standsAt_n_7 post (nI p) (nI o) (nI m) M := by
  have go : ∀ d i, i + d = m → (∀ j, j < i → T (p + j) = w j) → wl_ST_standsAt_n_7_3 post (d + 1) (nI p) (nI o) (nI m) (nI i) M := by
    intro d
    induction d with
    | zero =>
      intro i hi he
      unfold wl_ST_standsAt_n_7_3
      exact q_le (fun _ => h1 (fun j hj => he j (by omega))) (fun c => by omega)
    | succ d ih =>
      intro i hi he
      unfold wl_ST_standsAt_n_7_3
      rw [nI_add, nI_add, nI_1, nI_clamp (by omega), nI_clamp (by omega), hT _ (by omega), hw i (by omega)]
      refine q_le (fun c => by omega) (fun _ => ⟨vp_in_nI (by omega) (by omega), vp_in_nI (by omega) (by omega), fun e => q_x (ih (i + 1) (by omega) (fun j hj => ?_)), fun e => h2 (fun w => e (w i (by omega)))⟩)
      by_cases cj : j = i
      · rw [cj]; exact e
      · exact he j (by omega)
  exact ⟨m + 1, go m 0 (by omega) (fun j hj => by omega)⟩
theorem w_behind_n_7 {post : Int32 → gMem → Prop} {T w : Nat → Int32} {m L o : Nat} (hb : rFb M) (hLM : M 20 1 = nI L) (hT : ∀ k, k < L → M 21 k = T k) (hw : ∀ i, i < m → M 7 (o + i) = w i) (hm : 1 ≤ m) (hL : L + m + 1 ≤ 1701) (ho : o + m ≤ 1600) (H : ∀ M', fr sn_7 M M' → rFb M' → M' 20 1 = nI (L + m + 1) → (∀ k, k < L + m + 1 → M' 21 k = app T w m L k) → post (nI L) M') : wp_ST_putBehind_n_7 post (nI o) (nI m) M := by
  unfold wp_ST_putBehind_n_7
  rw [hLM, nI_add, nI_1]
  have hfit : ∀ j, fits .byte (.int (M 7 j)) = true := hb 7 (by decide)
  refine q_le (b := 1701) (fun _ => q_x ⟨nI_pos (by omega), nI_pos (by omega), nI_pos (by omega), ?_⟩) (fun c => by omega)
  rw [nI_clamp (by omega), nI_clamp (by omega), nI_clamp (by omega), nI_add, nI_1, nI_clamp (by omega)]
  refine ⟨ho, by omega, fun j _ => hfit _, fun M2 e2 => ⟨vp_in_nI (by omega) (by omega), fun M3 e3 M4 e4 => ?_⟩⟩
  have b2 : rFb M2 := by rw [e2]; exact rFb_cpy hb (fun j _ => hfit _)
  have b3 : rFb M3 := by rw [e3]; exact rFb_upd b2 (by decide)
  have f2 : fr sn_7 M M2 := by rw [e2]; exact fr_cpy (fun _ _ _ => Or.inl rfl)
  have f3 : fr sn_7 M2 M3 := by rw [e3]; exact fr_upd (Or.inl rfl)
  have f4 : fr sn_7 M3 M4 := by rw [e4]; exact fr_upd (Or.inr ⟨rfl, rfl⟩)
  refine H M4 (f2.trans (f3.trans f4)) (upB e4 b3) (u_at e4) (fun k hk => ?_)
  unfold app
  rw [u_ne e4]
  by_cases c1 : k = L + m
  · subst c1
    rw [if_neg (by omega), if_pos rfl, u_at e3]
    rfl
  · rw [u_ne e3]
    by_cases c2 : k < L
    · rw [if_neg (by omega), if_neg c1, y_ne e2]; exact hT k c2
    · rw [if_pos (by omega)]
      have := y_at e2 (k := k - L) (by omega)
      rw [show L + (k - L) = k by omega] at this
      rw [this]; exact hw _ (by omega)
theorem w_place_n_7 {post : Int32 → gMem → Prop} {S : (Nat → Int32) × Nat} {w : Nat → Int32} {m o : Nat} (hb : rFb M) (hLM : M 20 1 = nI S.2) (hT : ∀ k, k < S.2 → M 21 k = S.1 k) (hw : ∀ i, i < m → M 7 (o + i) = w i) (hm : 1 ≤ m) (hL : S.2 + m + 1 ≤ 1701) (ho : o + m ≤ 1600) (H : ∀ M', fr sn_7 M M' → rFb M' → M' 20 1 = nI (stp S w m).2 → (∀ k, k < (stp S w m).2 → M' 21 k = (stp S w m).1 k) → post (nI (plc S w m)) M') : wp_ST_placeOf_n_7 post (nI o) (nI m) M := by
  unfold wp_ST_placeOf_n_7
  rw [show (1600 : Int32) - nI m = nI (1600 - m) from pk_sub (a := 1600) (by omega)]
  refine q_lt (b := 1) (fun c => by omega) (fun _ => q_n0 (q_le (fun _ => ?_) (fun c => by omega)))
  have go : ∀ d p, 1 ≤ p → S.2 ≤ p + d → p ≤ S.2 + 1 → plc S w m = fnd S.1 w m S.2 d p → wl_ST_placeOf_n_7_22 post (d + 1) (nI o) (nI m) (nI p) M := by
    intro d
    induction d with
    | zero =>
      intro p hp hd hp2 e
      unfold wl_ST_placeOf_n_7_22
      have e' : plc S w m = S.2 := e
      have es : stp S w m = (app S.1 w m S.2, S.2 + m + 1) := by unfold stp; rw [if_neg (by omega)]
      rw [es, e'] at H
      have c1 : (M 20 1 - nI m) ≤ nI p := by
        rw [hLM, ti_le, ti_sub, ti_nI (by omega), ti_nI (by omega), ti_nI (by omega)]
        · omega
        · rw [ti_nI (by omega), ti_nI (by omega)]; omega
        · rw [ti_nI (by omega), ti_nI (by omega)]; omega
      exact q_t c1 (w_behind_n_7 hb hLM hT hw hm hL ho H)
    | succ d ih =>
      intro p hp hd hp2 e
      unfold wl_ST_placeOf_n_7_22
      unfold fnd at e
      have cc : (M 20 1 - nI m) ≤ nI p ↔ S.2 ≤ p + m := by
        rw [hLM, ti_le, ti_sub, ti_nI (by omega), ti_nI (by omega), ti_nI (by omega)]
        · omega
        · rw [ti_nI (by omega), ti_nI (by omega)]; omega
        · rw [ti_nI (by omega), ti_nI (by omega)]; omega
      by_cases c : S.2 ≤ p + m
      · rw [if_pos c] at e
        have es : stp S w m = (app S.1 w m S.2, S.2 + m + 1) := by unfold stp; rw [if_neg (by omega)]
        rw [es, e] at H
        exact q_t (cc.mpr c) (w_behind_n_7 hb hLM hT hw hm hL ho H)
      · rw [if_neg c] at e
        rw [nI_add, nI_1, nI_clamp (by omega), hT _ (by omega)]
        refine q_f (fun x => c (cc.mp x)) ⟨vp_in_nI (by omega) (by omega), fun z => q_x (ih (p + 1) (by omega) (by omega) (by omega) ?_), fun z => w_stand_n_7 hT hw (by omega) (by omega) ho (fun v => q_f (by decide) ?_) (fun v => q_t rfl (q_x (ih (p + 1) (by omega) (by omega) (by omega) ?_)))⟩
        · rw [mtB_f (fun q => z q.1), if_neg (by decide)] at e; exact e
        · rw [mtB_t.mpr ⟨z, v⟩, if_pos rfl] at e
          have es : stp S w m = S := by unfold stp; rw [if_pos (by omega)]
          rw [es, e] at H
          exact H M fr.refl hb hLM hT
        · rw [mtB_f (fun q => v q.2), if_neg (by decide)] at e; exact e
  exact ⟨S.2 + 1, go S.2 1 (by omega) (by omega) (by omega) rfl⟩

/-! the class: labels -/
def sl_24 (c j : Nat) : Prop := c = 23 ∨ (c = 22 ∧ j = 1)
theorem w_stand_l_24 {post : Bool → gMem → Prop} {T w : Nat → Int32} {m L p o : Nat} (hT : ∀ k, k < L → M 23 k = T k) (hw : ∀ i, i < m → M 24 (o + i) = w i) (hp : p + m < L) (hL : L ≤ 1701) (ho : o + m ≤ 16) (h1 : (∀ i, i < m → T (p + i) = w i) → post true M) (h2 : ¬ (∀ i, i < m → T (p + i) = w i) → post false M) : wp_ST_standsAt_l_24 post (nI p) (nI o) (nI m) M := by
  have go : ∀ d i, i + d = m → (∀ j, j < i → T (p + j) = w j) → wl_ST_standsAt_l_24_3 post (d + 1) (nI p) (nI o) (nI m) (nI i) M := by
    intro d
    induction d with
    | zero =>
      intro i hi he
      unfold wl_ST_standsAt_l_24_3
      exact q_le (fun _ => h1 (fun j hj => he j (by omega))) (fun c => by omega)
    | succ d ih =>
      intro i hi he
      unfold wl_ST_standsAt_l_24_3
      rw [nI_add, nI_add, nI_1, nI_clamp (by omega), nI_clamp (by omega), hT _ (by omega), hw i (by omega)]
      refine q_le (fun c => by omega) (fun _ => ⟨vp_in_nI (by omega) (by omega), vp_in_nI (by omega) (by omega), fun e => q_x (ih (i + 1) (by omega) (fun j hj => ?_)), fun e => h2 (fun w => e (w i (by omega)))⟩)
      by_cases cj : j = i
      · rw [cj]; exact e
      · exact he j (by omega)
  exact ⟨m + 1, go m 0 (by omega) (fun j hj => by omega)⟩
theorem w_behind_l_24 {post : Int32 → gMem → Prop} {T w : Nat → Int32} {m L o : Nat} (hb : rFb M) (hLM : M 22 1 = nI L) (hT : ∀ k, k < L → M 23 k = T k) (hw : ∀ i, i < m → M 24 (o + i) = w i) (hm : 1 ≤ m) (hL : L + m + 1 ≤ 1701) (ho : o + m ≤ 16) (H : ∀ M', fr sl_24 M M' → rFb M' → M' 22 1 = nI (L + m + 1) → (∀ k, k < L + m + 1 → M' 23 k = app T w m L k) → post (nI L) M') : wp_ST_putBehind_l_24 post (nI o) (nI m) M := by
  unfold wp_ST_putBehind_l_24
  rw [hLM, nI_add, nI_1]
  have hfit : ∀ j, fits .byte (.int (M 24 j)) = true := hb 24 (by decide)
  refine q_le (b := 1701) (fun _ => q_x ⟨nI_pos (by omega), nI_pos (by omega), nI_pos (by omega), ?_⟩) (fun c => by omega)
  rw [nI_clamp (by omega), nI_clamp (by omega), nI_clamp (by omega), nI_add, nI_1, nI_clamp (by omega)]
  refine ⟨ho, by omega, fun j _ => hfit _, fun M2 e2 => ⟨vp_in_nI (by omega) (by omega), fun M3 e3 M4 e4 => ?_⟩⟩
  have b2 : rFb M2 := by rw [e2]; exact rFb_cpy hb (fun j _ => hfit _)
  have b3 : rFb M3 := by rw [e3]; exact rFb_upd b2 (by decide)
  have f2 : fr sl_24 M M2 := by rw [e2]; exact fr_cpy (fun _ _ _ => Or.inl rfl)
  have f3 : fr sl_24 M2 M3 := by rw [e3]; exact fr_upd (Or.inl rfl)
  have f4 : fr sl_24 M3 M4 := by rw [e4]; exact fr_upd (Or.inr ⟨rfl, rfl⟩)
  refine H M4 (f2.trans (f3.trans f4)) (upB e4 b3) (u_at e4) (fun k hk => ?_)
  unfold app
  rw [u_ne e4]
  by_cases c1 : k = L + m
  · subst c1
    rw [if_neg (by omega), if_pos rfl, u_at e3]
    rfl
  · rw [u_ne e3]
    by_cases c2 : k < L
    · rw [if_neg (by omega), if_neg c1, y_ne e2]; exact hT k c2
    · rw [if_pos (by omega)]
      have := y_at e2 (k := k - L) (by omega)
      rw [show L + (k - L) = k by omega] at this
      rw [this]; exact hw _ (by omega)
theorem w_place_l_24 {post : Int32 → gMem → Prop} {S : (Nat → Int32) × Nat} {w : Nat → Int32} {m o : Nat} (hb : rFb M) (hLM : M 22 1 = nI S.2) (hT : ∀ k, k < S.2 → M 23 k = S.1 k) (hw : ∀ i, i < m → M 24 (o + i) = w i) (hm : 1 ≤ m) (hL : S.2 + m + 1 ≤ 1701) (ho : o + m ≤ 16) (H : ∀ M', fr sl_24 M M' → rFb M' → M' 22 1 = nI (stp S w m).2 → (∀ k, k < (stp S w m).2 → M' 23 k = (stp S w m).1 k) → post (nI (plc S w m)) M') : wp_ST_placeOf_l_24 post (nI o) (nI m) M := by
  unfold wp_ST_placeOf_l_24
  rw [show (16 : Int32) - nI m = nI (16 - m) from pk_sub (a := 16) (by omega)]
  refine q_lt (b := 1) (fun c => by omega) (fun _ => q_n0 (q_le (fun _ => ?_) (fun c => by omega)))
  have go : ∀ d p, 1 ≤ p → S.2 ≤ p + d → p ≤ S.2 + 1 → plc S w m = fnd S.1 w m S.2 d p → wl_ST_placeOf_l_24_22 post (d + 1) (nI o) (nI m) (nI p) M := by
    intro d
    induction d with
    | zero =>
      intro p hp hd hp2 e
      unfold wl_ST_placeOf_l_24_22
      have e' : plc S w m = S.2 := e
      have es : stp S w m = (app S.1 w m S.2, S.2 + m + 1) := by unfold stp; rw [if_neg (by omega)]
      rw [es, e'] at H
      have c1 : (M 22 1 - nI m) ≤ nI p := by
        rw [hLM, ti_le, ti_sub, ti_nI (by omega), ti_nI (by omega), ti_nI (by omega)]
        · omega
        · rw [ti_nI (by omega), ti_nI (by omega)]; omega
        · rw [ti_nI (by omega), ti_nI (by omega)]; omega
      exact q_t c1 (w_behind_l_24 hb hLM hT hw hm hL ho H)
    | succ d ih =>
      intro p hp hd hp2 e
      unfold wl_ST_placeOf_l_24_22
      unfold fnd at e
      have cc : (M 22 1 - nI m) ≤ nI p ↔ S.2 ≤ p + m := by
        rw [hLM, ti_le, ti_sub, ti_nI (by omega), ti_nI (by omega), ti_nI (by omega)]
        · omega
        · rw [ti_nI (by omega), ti_nI (by omega)]; omega
        · rw [ti_nI (by omega), ti_nI (by omega)]; omega
      by_cases c : S.2 ≤ p + m
      · rw [if_pos c] at e
        have es : stp S w m = (app S.1 w m S.2, S.2 + m + 1) := by unfold stp; rw [if_neg (by omega)]
        rw [es, e] at H
        exact q_t (cc.mpr c) (w_behind_l_24 hb hLM hT hw hm hL ho H)
      · rw [if_neg c] at e
        rw [nI_add, nI_1, nI_clamp (by omega), hT _ (by omega)]
        refine q_f (fun x => c (cc.mp x)) ⟨vp_in_nI (by omega) (by omega), fun z => q_x (ih (p + 1) (by omega) (by omega) (by omega) ?_), fun z => w_stand_l_24 hT hw (by omega) (by omega) ho (fun v => q_f (by decide) ?_) (fun v => q_t rfl (q_x (ih (p + 1) (by omega) (by omega) (by omega) ?_)))⟩
        · rw [mtB_f (fun q => z q.1), if_neg (by decide)] at e; exact e
        · rw [mtB_t.mpr ⟨z, v⟩, if_pos rfl] at e
          have es : stp S w m = S := by unfold stp; rw [if_pos (by omega)]
          rw [es, e] at H
          exact H M fr.refl hb hLM hT
        · rw [mtB_f (fun q => v q.2), if_neg (by decide)] at e; exact e
  exact ⟨S.2 + 1, go S.2 1 (by omega) (by omega) (by omega) rfl⟩

/-! the reference -/
def s68 (c j : Nat) : Prop := c = 68 ∨ (c = 41 ∧ j = 30)
theorem m_app {post : Int32 → gMem → Prop} {T w : Nat → Int32} {m L : Nat} (h32 : M 41 32 = nI m) (hT : ∀ k, k < L → M 68 k = T k) (hw : ∀ i, i < m → M 69 i = w i) (hm2 : m ≤ 16) (hL : L + m + 1 ≤ 2048) (H : ∀ M', fr s68 M M' → M' 41 30 = nI (L + m + 1) → (∀ k, k < L + m + 1 → M' 68 k = app T w m L k) → post (nI L) M') : ∃ n9, wl_MO_stringFor_97 post n9 (nI L) (0 : Int32) M := by
  refine pk_loop (fun k i M' => wl_MO_stringFor_97 post k (nI L) (nI i) M') (fun i M' => fr (fun c j => c = 68 ∧ L ≤ j) M M' ∧ ∀ j, j < i → M' 68 (L + j) = w j) m 0 M (by omega) ⟨fr.refl, fun j hj => by omega⟩ ?_ ?_
  · rintro k M' ⟨h1, h2⟩
    have e32 : M' 41 32 = nI m := by rw [h1 41 32 (by omega)]; exact h32
    unfold wl_MO_stringFor_97
    rw [e32, nI_add, nI_clamp (by omega)]
    refine q_le (fun _ => ⟨vp_in_nI (by omega) (by omega), fun M2 e2 M3 e3 => ?_⟩) (fun c => by omega)
    rw [show M2 41 32 = nI m by rw [u_ne e2]; exact e32, nI_add, nI_1] at e3
    have f1 : fr s68 M M' := h1.mono fun c j q => Or.inl q.1
    have f2 : fr s68 M' M2 := by rw [e2]; exact fr_upd (Or.inl rfl)
    have f3 : fr s68 M2 M3 := by rw [e3]; exact fr_upd (Or.inr ⟨rfl, rfl⟩)
    refine H M3 (f1.trans (f2.trans f3)) (u_at e3) (fun k hk => ?_)
    unfold app
    rw [u_ne e3]
    by_cases c1 : k = L + m
    · subst c1
      rw [if_neg (by omega), if_pos rfl]; exact u_at e2
    · rw [u_ne e2]
      by_cases c2 : k < L
      · rw [if_neg (by omega), if_neg c1, h1 68 k (by omega)]; exact hT k c2
      · rw [if_pos (by omega)]
        have := h2 (k - L) (by omega)
        rw [show L + (k - L) = k by omega] at this
        exact this
  · rintro k i M' hi ⟨h1, h2⟩ K
    have e32 : M' 41 32 = nI m := by rw [h1 41 32 (by omega)]; exact h32
    unfold wl_MO_stringFor_97
    rw [e32, show nI L + nI i = nI (L + i) from nI_add L i, nI_1, nI_clamp (show i < 2 ^ 31 by omega), nI_clamp (show L + i < 2 ^ 31 by omega), h1 69 i (by omega), hw i hi]
    refine q_le (fun c => by omega) (fun _ => ⟨vp_in_nI (by omega) (by omega), vp_in_nI (by omega) (by omega), fun M2 e2 => q_x ?_⟩)
    refine K M2 ⟨h1.trans (by rw [e2]; exact fr_upd ⟨rfl, by omega⟩), fun j hj => ?_⟩
    by_cases cj : j = i
    · subst cj; exact u_at e2
    · rw [u_ne e2]; exact h2 j (by omega)
theorem m_cmp {post : Int32 → gMem → Prop} {k2 : Int32 → gMem → Prop} {T w : Nat → Int32} {m L p : Nat} (h32 : M 41 32 = nI m) (hT : ∀ k, k < L → M 68 k = T k) (hw : ∀ i, i < m → M 69 i = w i) (hm2 : m ≤ 16) (hp : p + m < L) (hL : L ≤ 2048) (h1 : (∀ i, i < m → T (p + i) = w i) → post (nI p) M) (h2 : ¬ (∀ i, i < m → T (p + i) = w i) → k2 (nI (p + 1)) M) : ∃ n9, wl_MO_stringFor_37 post k2 n9 (nI p) (1 : Int32) (0 : Int32) M := by
  have go : ∀ d i, i + d = m → (∀ j, j < i → T (p + j) = w j) → wl_MO_stringFor_37 post k2 (d + 2) (nI p) (1 : Int32) (nI i) M := by
    intro d
    induction d with
    | zero =>
      intro i hi he
      unfold wl_MO_stringFor_37
      rw [h32]
      exact q_le (fun _ => q_f (by decide) (h1 (fun j hj => he j (by omega)))) (fun c => by omega)
    | succ d ih =>
      intro i hi he
      unfold wl_MO_stringFor_37
      rw [h32, nI_add, nI_1, nI_1, nI_clamp (show i < 2 ^ 31 by omega), nI_clamp (show p + i < 2 ^ 31 by omega), hT _ (by omega), hw i (by omega)]
      refine q_le (fun c => by omega) (fun _ => q_f (by decide) ⟨vp_in_nI (by omega) (by omega), vp_in_nI (by omega) (by omega), fun e => q_x ?_, fun e => q_x (ih (i + 1) (by omega) (fun j hj => ?_))⟩)
      · have hk := h2 (fun v => e (v i (by omega)))
        unfold wl_MO_stringFor_37
        rw [nI_1]
        exact ⟨fun _ => q_t rfl (q_x hk), fun _ => q_t rfl (q_t rfl (q_x hk))⟩
      · by_cases cj : j = i
        · rw [cj]; exact e
        · exact he j (by omega)
  exact ⟨m + 2, go m 0 (by omega) (fun j hj => by omega)⟩
theorem m_string {post : Int32 → gMem → Prop} {S : (Nat → Int32) × Nat} {w : Nat → Int32} {m : Nat} (h30 : M 41 30 = nI S.2) (h32 : M 41 32 = nI m) (hT : ∀ k, k < S.2 → M 68 k = S.1 k) (hw : ∀ i, i < m → M 69 i = w i) (hm : 1 ≤ m) (hm2 : m ≤ 16) (hL : S.2 + m + 1 ≤ 2048) (h1L : 1 ≤ S.2) (h0 : S.1 0 = 0) (hw0 : ¬ w 0 = 0) (H : ∀ M', fr s68 M M' → M' 41 30 = nI (stp S w m).2 → (∀ k, k < (stp S w m).2 → M' 68 k = (stp S w m).1 k) → post (nI (plc S w m)) M') : wp_MO_stringFor post M := by
  have ap : plc S w m = S.2 → ∃ n9, wl_MO_stringFor_97 post n9 (nI S.2) (0 : Int32) M := by
    intro e
    have es : stp S w m = (app S.1 w m S.2, S.2 + m + 1) := by unfold stp; rw [if_neg (by omega)]
    rw [es, e] at H
    exact m_app h32 hT hw hm2 hL H
  have go : ∀ d p, 1 ≤ p → S.2 ≤ p + d → p ≤ S.2 + 1 → plc S w m = fnd S.1 w m S.2 d p → wl_MO_stringFor_2 post (d + 1) (nI p) M := by
    intro d
    induction d with
    | zero =>
      intro p hp hd hp2 e
      unfold wl_MO_stringFor_2
      rw [h30, h32, nI_add]
      exact q_le (fun _ => q_x (ap e)) (fun c => by omega)
    | succ d ih =>
      intro p hp hd hp2 e
      unfold wl_MO_stringFor_2
      unfold fnd at e
      rw [h30, h32, nI_add, nI_clamp (by omega)]
      refine q_le (fun c => q_x (ap ?_)) (fun c => ⟨vp_in_nI (by omega) (by omega), ?_⟩)
      · rw [if_pos c] at e; exact e
      · rw [if_neg (by omega)] at e
        rw [hT _ (by omega)]
        refine ⟨fun z => ?_, fun z => m_cmp h32 hT hw hm2 c (by omega) (fun v => ?_) (fun v => ih (p + 1) (by omega) (by omega) (by omega) ?_)⟩
        · rw [mtB_f (fun q => z q.1), if_neg (by decide)] at e
          have hk := ih (p + 1) (by omega) (by omega) (by omega) e
          refine ⟨1, ?_⟩
          unfold wl_MO_stringFor_37
          rw [nI_1]
          exact ⟨fun _ => q_t rfl (q_x hk), fun _ => q_t rfl (q_t rfl (q_x hk))⟩
        · rw [mtB_t.mpr ⟨z, v⟩, if_pos rfl] at e
          have es : stp S w m = S := by unfold stp; rw [if_pos (by omega)]
          rw [es, e] at H
          exact H M fr.refl h30 hT
        · rw [mtB_f (fun q => v q.2), if_neg (by decide)] at e; exact e
  have g1 := go S.2 1 (by omega) (by omega) (by omega) rfl
  refine ⟨S.2 + 2, ?_⟩
  unfold wl_MO_stringFor_2
  rw [h30, h32, show (0 : Int32) + nI m = nI m by rw [show (0 : Int32) = nI 0 from rfl, nI_add, Nat.zero_add], nI_clamp (by omega)]
  refine q_le (fun c => q_x (ap ?_)) (fun c => ⟨vp_in_nI (by omega) (by omega), ?_⟩)
  · show fnd S.1 w m S.2 S.2 1 = S.2
    cases hS : S.2 with
    | zero => rfl
    | succ d =>
      unfold fnd
      rw [if_pos (by omega)]
  · rw [hT _ (by omega)]
    refine ⟨fun z => ⟨1, ?_⟩, fun z => m_cmp (p := 0) h32 hT hw hm2 (by omega) (by omega) (fun v => ?_) (fun v => g1)⟩
    · unfold wl_MO_stringFor_37
      exact ⟨fun _ => q_t rfl (q_x g1), fun _ => q_t rfl (q_t rfl (q_x g1))⟩
    · exfalso
      have := v 0 (by omega)
      rw [Nat.add_zero, h0] at this
      exact hw0 this.symm
end
