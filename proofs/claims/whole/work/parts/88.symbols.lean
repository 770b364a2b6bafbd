/-! same names, and the rows of symbols -/
section
variable {n T E N : Nat} {b : Nat → Fin 256} {M : gMem} {q B W G : Nat → Nat}
def smb (b : Nat → Fin 256) (p r : Nat) : Bool := (List.range (nlc b p + 1)).all (fun i => (b (p + i)).1 == (b (r + i)).1)
theorem smb_t {p r : Nat} : smb b p r = true ↔ ∀ i, i ≤ nlc b p → (b (p + i)).1 = (b (r + i)).1 := by
  unfold smb
  rw [List.all_eq_true]
  constructor
  · intro h i hi
    have := h i (List.mem_range.mpr (by omega))
    simpa using this
  · intro h i hi
    have := h i (by have := List.mem_range.mp hi; omega)
    simpa using this
theorem smb_f {p r i : Nat} (hi : i ≤ nlc b p) (h : (b (p + i)).1 ≠ (b (r + i)).1) : smb b p r = false := by
  cases c : smb b p r
  · rfl
  · exact absurd (smb_t.mp c i hi) h
theorem k_same {post : Bool → gMem → Prop} {p r : Nat} (V : rV n b M) (hp : p < 2 ^ 30) (hr : r < 2 ^ 30) (h1 : nlc b p ≠ 0) (h2 : nlc b r ≠ 0) (H : post (smb b p r) M) : wp_RE_haveSameName post (nI p) (nI r) M := by
  have g1 := nlc_g h1
  have g2 := nlc_g h2
  unfold gn at g1 g2
  have ht : (∀ j, j < 16 → j < nlc b p → (b (p + j)).1 = (b (r + j)).1) → ((b (p + nlc b p)).1 = (b (r + nlc b p)).1) → post true M := by
    intro a1 a2
    rw [smb_t.mpr (fun i hi => by
      by_cases c : i = nlc b p
      · rw [c]; exact a2
      · exact a1 i (by omega) (by omega))] at H
    exact H
  refine pk_loop (fun k i M' => wl_RE_haveSameName_2 post k (nI p) (nI r) (nI i) M') (fun i M' => M' = M ∧ (∀ j, j < i → (b (p + j)).1 = (b (r + j)).1) ∧ i ≤ nlc b p) 16 0 M (by omega) ⟨rfl, fun j hj => by omega, by omega⟩ ?_ ?_
  · rintro k s ⟨rfl, hI, hm⟩
    unfold wl_RE_haveSameName_2
    refine q_t (by decide) (ht (fun j a _ => hI j a) ?_)
    have e16 : nlc b p = 16 := by omega
    have : nlc b r = 16 := by
      by_cases c : nlc b r < 16
      · have z := hI (nlc b r) c
        rw [g2.2.2.1] at z
        have := g1.2.2.2 (nlc b r) (by omega)
        omega
      · omega
    have z := g2.2.2.1
    rw [this] at z
    have y := g1.2.2.1
    rw [e16] at y
    rw [e16, y, z]
  · rintro k i s hi ⟨rfl, hI, hm⟩ next
    unfold wl_RE_haveSameName_2
    rw [nI_add, nI_add]
    refine q_le (a := 16) (fun z => by omega) (fun _ => k_u1 V (k_u1 V (q_eq (fun c => q_ne (b := 0) (fun d => q_x ?_) (fun d => ?_)) (fun c => ?_))))
    · rw [nI_1]
      refine next s ⟨rfl, fun j hj => ?_, ?_⟩
      · by_cases f : j = i
        · rw [f]; exact c
        · exact hI j (by omega)
      · by_cases f : i = nlc b p
        · rw [f] at d; exact absurd g1.2.2.1 d
        · omega
    · refine ht (fun j a a2 => hI j ?_) ?_
      · by_cases f : i < nlc b p
        · have := g1.2.2.2 i f; omega
        · omega
      · have : i = nlc b p := by
          by_cases f : i < nlc b p
          · have := g1.2.2.2 i f; omega
          · omega
        rw [← this]; exact c
    · rw [smb_f (i := i) hm c] at H; exact H
theorem m_nameP {post : Int32 → gMem → Prop} {x : Nat} (X : mX n b T E N q B W G M) (hx : B 8 + 16 * x + 3 < n) (H : post (nI (B 9 + (v4 b (B 8 + 16 * x)).1)) M) : wp_MO_namePlace post (nI x) M := by
  unfold wp_MO_namePlace
  refine m_fo (p := 9) X (m_place X (m_read4 X.1.1 ?_))
  try dsimp only
  rw [lN_i, nI_add]
  exact H
theorem m_sameL {post : Bool → gMem → Prop} {p r z : Nat} (V : rV n b M) (hz : z < n) (hb : (b z).1 = 0) (hp : p ≤ z) (hr : r ≤ z) (h1 : nlc b p ≠ 0) (H : post (smb b p r) M) : ∃ n9 : Nat, wl_MO_isSameIn_16 post n9 (nI p) (nI r) (0 : Int32) M := by
  have g1 := nlc_g h1
  unfold gn at g1
  have h8 := V.1
  have bound : ∀ k a, a ≤ z → (∀ j, j < k → (b (a + j)).1 ≠ 0) → a + k ≤ z := by
    intro k a ha hj
    by_cases c : a + k ≤ z
    · exact c
    · exfalso
      have := hj (z - a) (by omega)
      rw [show a + (z - a) = z by omega] at this
      exact this hb
  refine pk_loop (fun k i M' => wl_MO_isSameIn_16 post k (nI p) (nI r) (nI i) M') (fun i M' => M' = M ∧ ∀ j, j < i → (b (p + j)).1 = (b (r + j)).1) (nlc b p) 0 M (by omega) ⟨rfl, fun j hj => by omega⟩ ?_ ?_
  · rintro k s ⟨rfl, hI⟩
    have b1 := bound (nlc b p) p hp (fun j hj => by have := g1.2.2.2 j hj; omega)
    have b2 := bound (nlc b p) r hr (fun j hj => by have := g1.2.2.2 j hj; rw [← hI j hj]; omega)
    unfold wl_MO_isSameIn_16 wj_MO_isSameIn_56
    rw [nI_add, nI_add, m_f V, m_f V]
    refine ⟨m_in V, q_eq (b := 0) (fun c => ⟨m_in V, m_in V, q_ne (fun d => ?_) (fun d => ?_)⟩) (fun c => absurd g1.2.2.1 c)⟩
    · rw [smb_f (i := nlc b p) (by omega) d] at H; exact H
    · rw [smb_t.mpr (fun i hi => by
        by_cases f : i = nlc b p
        · rw [f]; exact d
        · exact hI i (by omega))] at H
      exact H
  · rintro k i s hi ⟨rfl, hI⟩ next
    have b1 := bound i p hp (fun j hj => by have := g1.2.2.2 j (by omega); omega)
    have b2 := bound i r hr (fun j hj => by have := g1.2.2.2 j (by omega); rw [← hI j hj]; omega)
    have hn := g1.2.2.2 i hi
    unfold wl_MO_isSameIn_16 wj_MO_isSameIn_56
    rw [nI_add, nI_add, m_f V, m_f V]
    refine ⟨m_in V, q_eq (b := 0) (fun c => by omega) (fun c => ⟨m_in V, m_in V, q_ne (fun d => ⟨m_in V, m_in V, q_ne (fun _ => ?_) (fun f => absurd f d)⟩) (fun d => q_x ?_)⟩)⟩
    · rw [smb_f (i := i) (by omega) d] at H; exact H
    · rw [nI_1]
      refine next s ⟨rfl, fun j hj => ?_⟩
      by_cases f : j = i
      · rw [f]; exact d
      · exact hI j (by omega)
/-- the row's name -/
def np (b : Nat → Fin 256) (B : Nat → Nat) (x : Nat) : Nat := B 9 + (v4 b (B 8 + 16 * x)).1
def vn (b : Nat → Fin 256) (B W : Nat → Nat) (x : Nat) : Prop := (v4 b (B 8 + 16 * x)).1 < W 9 ∧ nlc b (np b B x) ≠ 0
theorem m_same {post : Bool → gMem → Prop} {x y : Nat} (X : mX n b T E N q B W G M) (hx : B 8 + 16 * x + 3 < n) (hy : B 8 + 16 * y + 3 < n) (h1 : vn b B W x) (h2 : vn b B W y) (H : post (smb b (np b B x) (np b B y)) M) : wp_MO_isSameIn post (nI x) (nI y) M := by
  have h9 := X.2.2.1.1 9 (by omega) (by omega)
  have hz := X.2.2.1.2.2.1
  unfold vn at h1 h2
  unfold wp_MO_isSameIn
  refine m_nameP X hx (m_nameP X hy ?_)
  exact m_sameL (z := B 9 + W 9 - 1) X.1.1 (by omega) hz.2 (by omega) (by omega) h1.2 H
def dpS (b : Nat → Fin 256) (B : Nat → Nat) (x : Nat) : Nat → Nat → Bool
  | 0, _ => false
  | d + 1, k => if bd b (B 8 + 16 * k) ≠ 0 ∧ smb b (np b B x) (np b B k) = true then true else dpS b B x d (k + 1)
theorem dpS_skip {x : Nat} : ∀ L d k, (∀ y, k ≤ y → y < k + L → bd b (B 8 + 16 * y) = 0) → dpS b B x (d + L) k = dpS b B x d (k + L) := by
  intro L
  induction L with
  | zero => intro d k _; rfl
  | succ L ih =>
    intro d k h
    show (if bd b (B 8 + 16 * k) ≠ 0 ∧ smb b (np b B x) (np b B k) = true then true else dpS b B x (d + L) (k + 1)) = _
    rw [if_neg (fun z => z.1 (h k (by omega) (by omega))), ih d (k + 1) (fun y a1 a2 => h y (by omega) (by omega)), show k + 1 + L = k + (L + 1) by omega]
def ySy (b : Nat → Fin 256) (q : Nat → Nat) (E : Nat) (B W : Nat → Nat) (x : Nat) : Nat × Nat :=
  if (v4 b (B 8 + 16 * x)).1 < W 9 ∧ nlc b (np b B x) ≠ 0 then
    if bd b (B 8 + 16 * x) ≤ 2 ∧ ty b (B 8 + 16 * x) ≤ 2 then
      if (b (B 8 + 16 * x + 13)).1 = 0 then
        if bd b (B 8 + 16 * x) = 0 ∧ 1 < x ∧ bd b (B 8 + 16 * (x - 1)) ≠ 0 then (24, B 8 + 16 * x + 12)
        else if whc q E (v2 b (B 8 + 16 * x + 14)).1 = 6 then (25, B 8 + 16 * x + 14)
        else if flc W (whc q E (v2 b (B 8 + 16 * x + 14)).1) (v4 b (B 8 + 16 * x + 4)).1 (v4 b (B 8 + 16 * x + 8)).1 (bd b (B 8 + 16 * x)) = 0 then (if bd b (B 8 + 16 * x) ≠ 0 ∧ dpS b B x (x - 1) 1 = true then (27, B 8 + 16 * x) else (0, 0))
        else (26, B 8 + 16 * x + flc W (whc q E (v2 b (B 8 + 16 * x + 14)).1) (v4 b (B 8 + 16 * x + 4)).1 (v4 b (B 8 + 16 * x + 8)).1 (bd b (B 8 + 16 * x)))
      else (23, B 8 + 16 * x + 13)
    else (23, B 8 + 16 * x + 12)
  else (22, B 8 + 16 * x)
theorem ySy_b {x : Nat} : (ySy b q E B W x).1 < 64 := by
  unfold ySy
  repeat' split
  all_goals simp
theorem flc_b {c v s d : Nat} : flc W c v s d = 0 ∨ flc W c v s d = 4 ∨ flc W c v s d = 8 ∨ flc W c v s d = 12 := by
  unfold flc
  repeat' split
  all_goals omega
/-- the locals stand first -/
def iL (b : Nat → Fin 256) (B : Nat → Nat) (L x : Nat) : Prop := L + 1 ≤ x ∧ (∀ y, 1 ≤ y → y ≤ L → bd b (B 8 + 16 * y) = 0) ∧ ∀ y, L < y → y < x → bd b (B 8 + 16 * y) ≠ 0
def s39 (c _j : Nat) : Prop := c = 32 ∨ c = 39
theorem kX_fr {M' : gMem} (hf : fr s39 M M') (X : kX n b T E N q B W G M) : kX n b T E N q B W G M' := by
  obtain ⟨x1, x2, x3, x4, x5⟩ := X
  refine ⟨kS_fr hf (by unfold s39; omega) (by unfold s39; omega) (by unfold s39; omega) (by unfold s39; omega) (by unfold s39; omega) x1, ⟨fun p hp => ?_, fun k h1 h2 => ?_⟩, x3, x4, fun p hp => ?_⟩
  · rw [hf 35 p (by unfold s39; omega)]; exact x2.1 p hp
  · rw [hf 34 k (by unfold s39; omega)]; exact x2.2 k h1 h2
  · rw [hf 36 p (by unfold s39; omega), hf 37 p (by unfold s39; omega)]; exact x5 p hp
theorem k_before {post : Bool → gMem → Prop} {x L : Nat} (X : kX n b T E N q B W G M) (hx : B 8 + 16 * x + 15 < n) (h39 : M 39 3 = nI L) (I : iL b B L x) (hv : ∀ y, 1 ≤ y → y ≤ x → vn b B W y) (H : post (dpS b B x (x - 1) 1) M) : wp_RE_isNamedBefore post (nI x) (nI (B 8 + 16 * x)) M := by
  have t := X.1.2.1
  unfold hT at t
  have h9 := X.2.2.1.1 9 (by omega) (by omega)
  obtain ⟨i1, i2, i3⟩ := I
  have hvx := hv x (by omega) (by omega)
  unfold vn at hvx
  unfold wp_RE_isNamedBefore wp_RE_nameSpot
  refine ⟨in_9, k_u4 X.1.1 (fun x3 e3 => ?_)⟩
  rw [cl_9, (X.2.2.2.2 9 (by omega)).1, lN_i, nI_add]
  rw [h39, nI_1] at e3
  subst e3
  have hd : dpS b B x (x - 1) 1 = dpS b B x (x - 1 - L) (L + 1) := by
    have := dpS_skip (b := b) (B := B) (x := x) L (x - 1 - L) 1 (fun y a1 a2 => i2 y a1 (by omega))
    rw [show x - 1 - L + L = x - 1 by omega, show 1 + L = L + 1 by omega] at this
    exact this
  rw [hd] at H
  have go : ∀ d k, k + d = x → L < k → post (dpS b B x d k) M → wl_RE_isNamedBefore_14 post (d + 1) (nI x) (nI (np b B x)) (nI k) M := by
    intro d
    induction d with
    | zero =>
      intro k hk hl H
      unfold wl_RE_isNamedBefore_14
      exact q_le (fun c => H) (fun c => by omega)
    | succ d ih =>
      intro k hk hl H
      unfold wl_RE_isNamedBefore_14 wp_RE_nameSpot
      have hvk := hv k (by omega) (by omega)
      unfold vn at hvk
      rw [cl_8, (X.2.2.2.2 8 (by omega)).1, show (16 : Int32) = nI 16 from rfl, pk_mul, nI_add]
      unfold dpS at H
      refine q_le (fun c => by omega) (fun c => ⟨in_8, in_9, k_u4 X.1.1 ?_⟩)
      try dsimp only
      rw [cl_9, (X.2.2.2.2 9 (by omega)).1, lN_i, nI_add]
      refine k_same X.1.1 (by unfold np; omega) (by omega) hvx.2 hvk.2 (q_b (fun z => q_x ?_) (fun z => ?_))
      · rw [if_neg (fun y => by rw [show smb b (np b B x) (np b B k) = false from z] at y; exact absurd y.2 (by simp))] at H
        rw [nI_1]
        exact ih (k + 1) (by omega) (by omega) H
      · rw [if_pos ⟨i3 k hl (by omega), z⟩] at H; exact H
  exact ⟨x - 1 - L + 1, go (x - 1 - L) (L + 1) (by omega) (by omega) H⟩
theorem k_bot {post : Bool → gMem → Prop} {a : Nat} (ha : a < 2 ^ 31) (H1 : a ≤ 2 → post true M) (H2 : ¬ a ≤ 2 → post false M) : wp_OF_isBindOrType post (nI a) M := q_n0 (q_lt (a := 2) (fun c => H2 (by omega)) (fun c => H1 c))
theorem k_symF {post : Int32 → gMem → Prop} {x L : Nat} (X : kX n b T E N q B W G M) (hx1 : 1 ≤ x) (hx : B 8 + 16 * x + 15 < n) (h39 : M 39 3 = nI L) (I : iL b B L x) (hv : ∀ y, 1 ≤ y → y < x → vn b B W y) (H : ∀ M', fr s39 M M' → ((ySy b q E B W x).1 = 0 → M' 32 0 = M 32 0 ∧ M' 39 3 = nI (L + if bd b (B 8 + 16 * x) = 0 then 1 else 0)) → ((ySy b q E B W x).1 ≠ 0 → M' 32 0 = nI (ySy b q E B W x).2) → post (nI (ySy b q E B W x).1) M') : wp_RE_symbolFault post (nI x) (nI (B 8 + 16 * x)) M := by
  have t := X.1.2.1
  unfold hT at t
  have h8 := X.1.1.1
  have hbd := bd_lt (b := b) (P := B 8 + 16 * x)
  have hty := ty_lt (b := b) (P := B 8 + 16 * x)
  have bad : ∀ f p, ySy b q E B W x = (f, p) → f ≠ 0 → ∀ M1, fr s39 M M1 → post (nI f) (tl M1 (f, p)) := by
    intro f p e hf M1 f1
    rw [e] at H
    exact H _ (f1.trans (tl_fr (Or.inl rfl))) (fun z => absurd z hf) (fun _ => tl_rC.2.2 hf)
  unfold wp_RE_symbolFault wj_RE_symbolFault_44
  refine k_nameLen X.1.1 X.2.2.1 X.2.2.2.2 (by omega) ?_
  try dsimp only
  rw [i12, i13]
  by_cases c1 : (v4 b (B 8 + 16 * x)).1 < W 9 ∧ nlc b (np b B x) ≠ 0
  · rw [if_pos c1.1]
    refine q_f' (fun z => ?_) ?_
    · rw [show B 9 + (v4 b (B 8 + 16 * x)).1 = np b B x from rfl, wz, if_neg c1.2] at z
      have g := nlc_g c1.2
      unfold gn at g
      rw [ti_eq, ti_nI (by omega), show ((-1 : Int32)).toInt = -1 from rfl] at z
      omega
    refine k_bind X.1.1 (by omega) (k_bot (by omega) (fun c2 => q_f (by decide) (k_type X.1.1 (by omega) (k_bot (by omega) (fun c3 => q_f' (by decide) (k_u1 X.1.1 (q_eq (b := 0) (fun c4 => ?_) (fun c4 => ?_)))) (fun c3 => q_t' rfl ?_)))) (fun c2 => q_t rfl ?_))
    · have fin : ¬ (bd b (B 8 + 16 * x) = 0 ∧ 1 < x ∧ bd b (B 8 + 16 * (x - 1)) ≠ 0) → wj_RE_symbolFault_114 post (nI x) (nI (B 8 + 16 * x)) (nI (bd b (B 8 + 16 * x))) M := by
        intro c5
        have main : ∀ s, (s = if bd b (B 8 + 16 * x) = 0 then 1 else 0) → wj_RE_symbolFault_128 post (nI x) (nI (B 8 + 16 * x)) (nI (bd b (B 8 + 16 * x))) (nI s) (M 39 3) M := by
          intro s hs M1 e1
          rw [h39, nI_add] at e1
          have f1 : fr s39 M M1 := e1 ▸ fr_upd (Or.inr rfl)
          have X1 := kX_fr f1 X
          have g1 : M1 39 3 = nI (L + s) := by rw [e1]; rfl
          have g0 : M1 32 0 = M 32 0 := by rw [e1]; rfl
          rw [i4, i8, i12, i14]
          refine k_where X1 hx ?_
          by_cases c6 : whc q E (v2 b (B 8 + 16 * x + 14)).1 = 6
          · rw [c6]
            exact q_t' rfl (k_tell (f := 25) (bad _ _ (by rw [ySy, if_pos c1, if_pos ⟨c2, c3⟩, if_pos c4, if_neg c5, if_pos c6]) (by omega) M1 f1))
          · have hw := whc_le (q := q) (E := E) (w := (v2 b (B 8 + 16 * x + 14)).1)
            refine q_f' (fun z => ?_) (k_flawIn X1 hx c6 ?_)
            · unfold cw at z
              by_cases c7 : whc q E (v2 b (B 8 + 16 * x + 14)).1 = 7
              · rw [if_pos c7] at z; exact absurd z (by decide)
              · rw [if_neg c7, show (6 : Int32) = nI 6 from rfl, nI_eq (by omega) (by omega)] at z
                exact c6 z
            · have hfl := flc_b (W := W) (c := whc q E (v2 b (B 8 + 16 * x + 14)).1) (v := (v4 b (B 8 + 16 * x + 4)).1) (s := (v4 b (B 8 + 16 * x + 8)).1) (d := bd b (B 8 + 16 * x))
              have hy : ySy b q E B W x = if flc W (whc q E (v2 b (B 8 + 16 * x + 14)).1) (v4 b (B 8 + 16 * x + 4)).1 (v4 b (B 8 + 16 * x + 8)).1 (bd b (B 8 + 16 * x)) = 0 then (if bd b (B 8 + 16 * x) ≠ 0 ∧ dpS b B x (x - 1) 1 = true then (27, B 8 + 16 * x) else (0, 0)) else (26, B 8 + 16 * x + flc W (whc q E (v2 b (B 8 + 16 * x + 14)).1) (v4 b (B 8 + 16 * x + 4)).1 (v4 b (B 8 + 16 * x + 8)).1 (bd b (B 8 + 16 * x))) := by rw [ySy, if_pos c1, if_pos ⟨c2, c3⟩, if_pos c4, if_neg c5, if_neg c6]
              generalize flc W (whc q E (v2 b (B 8 + 16 * x + 14)).1) (v4 b (B 8 + 16 * x + 4)).1 (v4 b (B 8 + 16 * x + 8)).1 (bd b (B 8 + 16 * x)) = fl at *
              rcases hfl with z | z | z | z
              · subst z
                rw [if_pos rfl] at hy
                refine q_t rfl (q_eq (b := 0) (fun d0 => ?_) (fun d0 => ?_))
                · rw [if_neg (fun z => z.1 d0)] at hy
                  rw [hy] at H
                  rw [if_pos d0] at hs
                  exact H M1 f1 (fun _ => ⟨g0, by rw [g1, hs, if_pos d0]⟩) (fun z => absurd rfl z)
                · rw [if_neg d0] at hs
                  subst hs
                  refine k_before X1 hx g1 I (fun y a1 a2 => ?_) (q_b (fun d1 => ?_) (fun d1 => ?_))
                  · by_cases a3 : y = x
                    · rw [a3]; exact c1
                    · exact hv y a1 (by omega)
                  · rw [if_neg (fun z => by rw [d1] at z; exact absurd z.2 (by simp))] at hy
                    rw [hy] at H
                    exact H M1 f1 (fun _ => ⟨g0, by rw [g1, if_neg d0]⟩) (fun z => absurd rfl z)
                  · rw [if_pos ⟨d0, d1⟩] at hy
                    exact k_tell (f := 27) (bad _ _ hy (by omega) M1 f1)
              · subst z
                exact q_f (by decide) (q_t' rfl (k_tell (f := 26) (bad _ _ hy (by omega) M1 f1)))
              · subst z
                exact q_f (by decide) (q_f' (by decide) (q_t' rfl (k_tell (f := 26) (bad _ _ hy (by omega) M1 f1))))
              · subst z
                exact q_f (by decide) (q_f' (by decide) (q_f' (by decide) (k_tell (f := 26) (bad _ _ hy (by omega) M1 f1))))
        unfold wj_RE_symbolFault_114
        exact q_ne (b := 0) (fun z => main 0 (by rw [if_neg z])) (fun z => main 1 (by rw [if_pos z]))
      obtain ⟨i1, i2, i3⟩ := I
      refine q_ne (b := 0) (fun c5 => fin (fun z => c5 z.1)) (fun c5 => ?_)
      rw [h39, show nI x - (1 : Int32) = nI (x - 1) from pk_sub (b := 1) (by omega)]
      refine q_le (fun c6 => fin (fun z => z.2.2 (i2 (x - 1) (by omega) (by omega)))) (fun c6 => ?_)
      exact k_tell (f := 24) (bad _ _ (by rw [ySy, if_pos c1, if_pos ⟨c2, c3⟩, if_pos c4, if_pos ⟨c5, by omega, i3 (x - 1) (by omega) (by omega)⟩]) (by omega) M fr.refl)
    · exact k_tell (f := 23) (bad _ _ (by rw [ySy, if_pos c1, if_pos ⟨c2, c3⟩, if_neg c4]) (by omega) M fr.refl)
    · exact k_tell (f := 23) (bad _ _ (by rw [ySy, if_pos c1, if_neg (fun z => c3 z.2)]) (by omega) M fr.refl)
    · exact k_tell (f := 23) (bad _ _ (by rw [ySy, if_pos c1, if_neg (fun z => c2 z.1)]) (by omega) M fr.refl)
  · have e : (if (v4 b (B 8 + 16 * x)).1 < W 9 then wz (nlc b (B 9 + (v4 b (B 8 + 16 * x)).1)) else -1) = -1 := by
      by_cases c : (v4 b (B 8 + 16 * x)).1 < W 9
      · rw [if_pos c]
        have : nlc b (B 9 + (v4 b (B 8 + 16 * x)).1) = 0 := by
          by_cases d : nlc b (np b B x) = 0
          · exact d
          · exact absurd ⟨c, d⟩ c1
        rw [this]; rfl
      · rw [if_neg c]
    rw [e]
    exact q_t' rfl (k_tell (f := 22) (bad _ _ (by rw [ySy, if_neg c1]) (by omega) M fr.refl))
theorem m_symF {post : Int32 → gMem → Prop} {x : Nat} (X : mX n b T E N q B W G M) (hx1 : 1 ≤ x) (hx : B 8 + 16 * x + 15 < n) (hv : ∀ y, 1 ≤ y → y < x → vn b B W y) (H : post (nI (ySy b q E B W x).1) (tm M (ySy b q E B W x))) : wj_MO_symbolFault_45 post (nI x) (nI (B 8 + 16 * x)) M := by
  have t := X.1.2.1
  unfold hT at t
  have V := X.1.1
  have h8 := V.1
  have h9 := X.2.2.1.1 9 (by omega) (by omega)
  have hz := X.2.2.1.2.2.1
  have hbd := bd_lt (b := b) (P := B 8 + 16 * x)
  have hty := ty_lt (b := b) (P := B 8 + 16 * x)
  have bad : ∀ f p, ySy b q E B W x = (f, p) → post (nI f) (tm M (f, p)) := by
    intro f p e
    rw [e] at H
    exact H
  unfold wj_MO_symbolFault_45 wj_MO_symbolFault_111
  refine q_ne (b := 0) (fun _ => m_read4 V (m_by (p := 9) X (ql_le (fun c => m_fault (f := 22) (bad _ _ (by rw [ySy, if_neg (fun z => by omega)]))) (fun c => m_nameP X (by omega) (m_isName (z := B 9 + W 9 - 1) V (by omega) hz.2 (by omega) (fun c1 => q_f' (by decide) ?_) (fun c1 => q_t' rfl (m_fault (f := 22) (bad _ _ (by rw [ySy, if_neg (fun z => z.2 c1)])))))))) ) (fun z => by omega)
  have cv : vn b B W x := ⟨c, c1⟩
  have hvx : ∀ y, 1 ≤ y → y ≤ x → vn b B W y := fun y a1 a2 => by
    by_cases a3 : y = x
    · rw [a3]; exact cv
    · exact hv y a1 (by omega)
  rw [i12, i13, m_f V (by omega), m_f V (by omega)]
  refine ⟨m_in V (by omega), fun x13 e13 => ?_⟩
  subst e13
  rw [pk_shrN (by omega) _ 4 (by decide), pk_andN (by omega) 4 (by decide), show (b (B 8 + 16 * x + 12)).1 / 2 ^ 4 = bd b (B 8 + 16 * x) from rfl, show (b (B 8 + 16 * x + 12)).1 % 2 ^ 4 = ty b (B 8 + 16 * x) from rfl]
  refine q_lt (a := 2) (fun c2 => m_fault (f := 23) (bad _ _ (by rw [ySy, if_pos ⟨c, c1⟩, if_neg (fun z => by omega)]))) (fun c2 => q_le (b := 2) (fun c3 => ⟨m_in V (by omega), q_eq (b := 0) (fun c4 => ?_) (fun c4 => m_fault (f := 23) (bad _ _ (by rw [ySy, if_pos ⟨c, c1⟩, if_pos ⟨c2, c3⟩, if_neg c4])))⟩) (fun c3 => m_fault (f := 23) (bad _ _ (by rw [ySy, if_pos ⟨c, c1⟩, if_neg (fun z => by omega)]))))
  have fin : ¬ (bd b (B 8 + 16 * x) = 0 ∧ 1 < x ∧ bd b (B 8 + 16 * (x - 1)) ≠ 0) → wj_MO_symbolFault_177 post (nI x) (nI (B 8 + 16 * x)) (nI (b (B 8 + 16 * x + 12)).1) M := by
    intro c5
    unfold wj_MO_symbolFault_177
    rw [i14]
    refine m_where X hx ?_
    by_cases c6 : whc q E (v2 b (B 8 + 16 * x + 14)).1 = 6
    · rw [c6]
      exact q_t' rfl (m_fault (f := 25) (bad _ _ (by rw [ySy, if_pos ⟨c, c1⟩, if_pos ⟨c2, c3⟩, if_pos c4, if_neg c5, if_pos c6])))
    · have hw := whc_le (q := q) (E := E) (w := (v2 b (B 8 + 16 * x + 14)).1)
      refine q_f' (fun z => ?_) (m_amiss X hx c6 ?_)
      · unfold mw at z
        by_cases c7 : whc q E (v2 b (B 8 + 16 * x + 14)).1 = 7
        · rw [if_pos c7] at z; exact absurd z (by decide)
        · rw [if_neg c7, if_neg c6, ti_eq, ti_nI (by omega), show ((-2 : Int32)).toInt = -2 from rfl] at z
          omega
      · have hfl := flc_b (W := W) (c := whc q E (v2 b (B 8 + 16 * x + 14)).1) (v := (v4 b (B 8 + 16 * x + 4)).1) (s := (v4 b (B 8 + 16 * x + 8)).1) (d := bd b (B 8 + 16 * x))
        have hy : ySy b q E B W x = if flc W (whc q E (v2 b (B 8 + 16 * x + 14)).1) (v4 b (B 8 + 16 * x + 4)).1 (v4 b (B 8 + 16 * x + 8)).1 (bd b (B 8 + 16 * x)) = 0 then (if bd b (B 8 + 16 * x) ≠ 0 ∧ dpS b B x (x - 1) 1 = true then (27, B 8 + 16 * x) else (0, 0)) else (26, B 8 + 16 * x + flc W (whc q E (v2 b (B 8 + 16 * x + 14)).1) (v4 b (B 8 + 16 * x + 4)).1 (v4 b (B 8 + 16 * x + 8)).1 (bd b (B 8 + 16 * x))) := by rw [ySy, if_pos ⟨c, c1⟩, if_pos ⟨c2, c3⟩, if_pos c4, if_neg c5, if_neg c6]
        generalize flc W (whc q E (v2 b (B 8 + 16 * x + 14)).1) (v4 b (B 8 + 16 * x + 4)).1 (v4 b (B 8 + 16 * x + 8)).1 (bd b (B 8 + 16 * x)) = fl at *
        refine q_le (b := 0) (fun f0 => ?_) (fun f0 => ?_)
        · rw [if_pos (by omega)] at hy
          have go : ∀ d k, k + d = x → 1 ≤ k → (bd b (B 8 + 16 * x) ≠ 0 → dpS b B x (x - 1) 1 = dpS b B x d k) → wl_MO_symbolFault_224 post (d + 1) (nI x) (nI (B 8 + 16 * x)) (nI (b (B 8 + 16 * x + 12)).1) (nI k) M := by
            intro d
            induction d with
            | zero =>
              intro k hk h1 hd
              unfold wl_MO_symbolFault_224
              refine q_le (fun _ => ?_) (fun z => by omega)
              rw [if_neg (fun z => by rw [hd z.1] at z; exact absurd z.2 (by simp [dpS]))] at hy
              exact bad _ _ hy
            | succ d ih =>
              intro k hk h1 hd
              unfold wl_MO_symbolFault_224
              rw [pk_shrN (by omega) _ 4 (by decide), show (b (B 8 + 16 * x + 12)).1 / 2 ^ 4 = bd b (B 8 + 16 * x) from rfl]
              have hbk := bd_lt (b := b) (P := B 8 + 16 * k)
              refine q_le (fun z => by omega) (fun _ => q_eq (b := 0) (fun z => ?_) (fun z => m_bind X (by omega) (q_eq (b := 0) (fun y => q_x ?_) (fun y => m_same X (by omega) (by omega) cv (hvx k h1 (by omega)) (q_b (fun w => q_x ?_) (fun w => ?_))))))
              · rw [if_neg (fun y => y.1 z)] at hy
                exact bad _ _ hy
              · rw [nI_1]
                refine ih (k + 1) (by omega) (by omega) (fun w => ?_)
                rw [hd w]
                show (if _ then _ else _) = _
                rw [if_neg (fun u => u.1 y)]
              · rw [nI_1]
                refine ih (k + 1) (by omega) (by omega) (fun v => ?_)
                rw [hd v]
                show (if _ then _ else _) = _
                rw [if_neg (fun u => by rw [w] at u; exact absurd u.2 (by simp))]
              · rw [if_pos ⟨z, by rw [hd z]; show (if _ then _ else _) = _; rw [if_pos ⟨y, w⟩]⟩] at hy
                exact m_fault (f := 27) (bad _ _ hy)
          exact ⟨x - 1 + 1, go (x - 1) 1 (by omega) (by omega) (fun _ => rfl)⟩
        · rw [if_neg (by omega)] at hy
          rw [nI_add]
          exact m_fault (f := 26) (bad _ _ hy)
  refine q_ne (b := 0) (fun c5 => fin (fun z => c5 z.1)) (fun c5 => q_le (b := 1) (fun c6 => fin (fun z => by omega)) (fun c6 => ?_))
  rw [show nI x - (1 : Int32) = nI (x - 1) from pk_sub (b := 1) (by omega)]
  have hb1 := bd_lt (b := b) (P := B 8 + 16 * (x - 1))
  refine m_bind X (by omega) (q_eq (b := 0) (fun c7 => fin (fun z => z.2.2 c7)) (fun c7 => m_fault (f := 24) (bad _ _ (by rw [ySy, if_pos ⟨c, c1⟩, if_pos ⟨c2, c3⟩, if_pos c4, if_pos ⟨c5, c6, c7⟩]))))
end
