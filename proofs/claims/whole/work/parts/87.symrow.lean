/-! a symbol's row: bind, type, place, flaw, same names -/
section
variable {n T E N : Nat} {b : Nat → Fin 256} {M : gMem} {q B W G : Nat → Nat}
def kX (n : Nat) (b : Nat → Fin 256) (T E N : Nat) (q B W G : Nat → Nat) (M : gMem) : Prop := kS n b T E N M ∧ lV q E M ∧ pF n b B W G ∧ qO q E ∧ kP B W M
def mX (n : Nat) (b : Nat → Fin 256) (T E N : Nat) (q B W G : Nat → Nat) (M : gMem) : Prop := mS n b T E N M ∧ lM q E M ∧ pF n b B W G ∧ qO q E ∧ ∀ p, B p = (bg b T (eo q E p)).1 ∧ W p = (ln b T (eo q E p)).1
theorem m_by {post : Int64 → gMem → Prop} {p : Nat} (X : mX n b T E N q B W G M) (H : post (lN (W p)) M) (hp : p < 11 := by omega) : wp_MO_bytesOf post (nI p) M := by
  have t := X.1.2.1
  unfold hT at t
  rw [(X.2.2.2.2 p).2] at H
  exact m_bytes X.1 hp (X.2.1.1 p hp) (eo_lt (by omega)) H
theorem m_fo {post : Int32 → gMem → Prop} {p : Nat} (X : mX n b T E N q B W G M) (H : post (nI (B p)) M) (hp : p < 11 := by omega) : wp_MO_from post (nI p) M := by
  have t := X.1.2.1
  unfold hT at t
  rw [(X.2.2.2.2 p).1] at H
  exact m_from X.1 hp (X.2.1.1 p hp) (eo_lt (by omega)) H
theorem i2 {a : Nat} : nI a + (2 : Int32) = nI (a + 2) := nI_add a 2
theorem i4 {a : Nat} : nI a + (4 : Int32) = nI (a + 4) := nI_add a 4
theorem i8 {a : Nat} : nI a + (8 : Int32) = nI (a + 8) := nI_add a 8
theorem i12 {a : Nat} : nI a + (12 : Int32) = nI (a + 12) := nI_add a 12
theorem i13 {a : Nat} : nI a + (13 : Int32) = nI (a + 13) := nI_add a 13
theorem i14 {a : Nat} : nI a + (14 : Int32) = nI (a + 14) := nI_add a 14
theorem i16 {a : Nat} : nI a + (16 : Int32) = nI (a + 16) := nI_add a 16
def bd (b : Nat → Fin 256) (P : Nat) : Nat := (b (P + 12)).1 / 16
def ty (b : Nat → Fin 256) (P : Nat) : Nat := (b (P + 12)).1 % 16
theorem bd_lt {P : Nat} : bd b P < 16 := by unfold bd; omega
theorem ty_lt {P : Nat} : ty b P < 16 := by unfold ty; omega
theorem k_bind {post : Int32 → gMem → Prop} {P : Nat} (V : rV n b M) (hP : P < 2 ^ 30) (H : post (nI (bd b P)) M) : wp_RE_bindOf post (nI P) M := by
  unfold wp_RE_bindOf
  rw [i12]
  refine k_u1 V ?_
  try dsimp only
  rw [pk_ushrN (by omega) 4 4 (by decide)]
  exact H
theorem k_type {post : Int32 → gMem → Prop} {P : Nat} (V : rV n b M) (hP : P < 2 ^ 30) (H : post (nI (ty b P)) M) : wp_RE_typeOf post (nI P) M := by
  unfold wp_RE_typeOf
  rw [i12]
  refine k_u1 V ?_
  try dsimp only
  rw [pk_andN (by omega) 4 (by decide)]
  exact H
theorem m_place {post : Int32 → gMem → Prop} {x : Nat} (X : mX n b T E N q B W G M) (H : post (nI (B 8 + 16 * x)) M) : wp_MO_symbolPlace post (nI x) M := by
  unfold wp_MO_symbolPlace
  refine m_fo (p := 8) X ?_
  try dsimp only
  rw [show (16 : Int32) = nI 16 from rfl, pk_mul, nI_add]
  exact H
theorem m_bind {post : Int32 → gMem → Prop} {x : Nat} (X : mX n b T E N q B W G M) (hx : B 8 + 16 * x + 12 < n) (H : post (nI (bd b (B 8 + 16 * x))) M) : wp_MO_bindOf post (nI x) M := by
  unfold wp_MO_bindOf
  refine m_place X ?_
  try dsimp only
  rw [i12, m_f X.1.1 hx, pk_shrN (by omega) _ 4 (by decide)]
  exact ⟨m_in X.1.1 hx, H⟩
/-- where: 7 nowhere, 6 none -/
def whc (q : Nat → Nat) (E w : Nat) : Nat := if w = 0 then 7 else if w = 65521 then 4 else if w = 65522 then 5 else if w < E ∧ q w ≤ 3 then q w else 6
theorem whc_le {w : Nat} : whc q E w ≤ 7 := by
  unfold whc
  repeat' split
  all_goals omega
def cw (c : Nat) : Int32 := if c = 7 then -1 else nI c
def mw (c : Nat) : Int32 := if c = 7 then -1 else if c = 6 then -2 else nI c
theorem k_where {post : Int32 → gMem → Prop} {P : Nat} (X : kX n b T E N q B W G M) (hP : P + 15 < n) (H : post (cw (whc q E (v2 b (P + 14)).1)) M) : wp_RE_whereOf post (nI P) M := by
  have t := X.1.2.1
  unfold hT at t
  unfold wp_RE_whereOf
  rw [i14]
  unfold whc at H
  refine k_u2 X.1.1 (q_eq (b := 0) (fun c => ?_) (fun c => q_eq (b := 65521) (fun d => ?_) (fun d => q_eq (b := 65522) (fun e => ?_) (fun e => ?_))))
  · rw [if_pos c] at H; exact H
  · rw [if_neg c, if_pos d] at H; exact H
  · rw [if_neg c, if_neg d, if_pos e] at H; exact H
  · rw [if_neg c, if_neg d, if_neg e] at H
    unfold wp_DI_sectionOf
    rw [X.1.2.2.2.1]
    have none : ¬ ((v2 b (P + 14)).1 < E ∧ q (v2 b (P + 14)).1 ≤ 3) → (¬ (-1 : Int32) = -1 → post (-1 : Int32) M) ∧ ((-1 : Int32) = -1 → post (6 : Int32) M) := fun z => by
      rw [if_neg z] at H
      exact q_t' rfl H
    refine q_lt (b := 1) (fun z => by omega) (fun _ => q_le (fun z => none (by omega)) (fun z => q_lt (b := 16) (fun _ => ⟨vp_in_nI (by omega) (by omega), ?_⟩) (fun z => by omega)))
    have hq := X.2.2.2.1.1 (v2 b (P + 14)).1 (by omega) z
    rw [nI_clamp (by omega), X.2.1.2 (v2 b (P + 14)).1 (by omega) z]
    refine q_lt (a := 3) (fun y => none (by omega)) (fun y => ⟨vp_in_nI (by omega) (by omega), ?_⟩)
    rw [if_pos ⟨z, y⟩, cw, if_neg (by omega)] at H
    refine q_f' (fun x => ?_) H
    rw [ti_eq, ti_nI (by omega), show ((-1 : Int32)).toInt = -1 from rfl] at x
    omega
theorem m_where {post : Int32 → gMem → Prop} {x : Nat} (X : mX n b T E N q B W G M) (hP : B 8 + 16 * x + 15 < n) (H : post (mw (whc q E (v2 b (B 8 + 16 * x + 14)).1)) M) : wp_MO_whereOf post (nI x) M := by
  have t := X.1.2.1
  unfold hT at t
  unfold wp_MO_whereOf
  refine m_place X ?_
  try dsimp only
  rw [i14]
  generalize hw : (v2 b (B 8 + 16 * x + 14)) = w at H
  refine m_read2 X.1.1 ?_
  rw [hw]
  unfold whc at H
  refine q_ne (b := 0) (fun c => q_ne (b := 65521) (fun d => q_ne (b := 65522) (fun e => ?_) (fun e => ?_)) (fun d => ?_)) (fun c => ?_)
  · rw [if_neg c, if_neg d, if_neg e] at H
    refine pk_loop (fun k i M' => wl_MO_whereOf_37 post k (nI w.1) (nI i) M') (fun i M' => M' = M ∧ ∀ s, s < i → eo q E s ≠ w.1) 4 0 M (by omega) ⟨rfl, fun j hj => by omega⟩ ?_ ?_
    · rintro k s ⟨rfl, hI⟩
      unfold wl_MO_whereOf_37
      refine q_t (by decide) ?_
      rw [if_neg (fun z => hI (q w.1) (by omega) (X.2.2.2.1.1 w.1 (by omega) z.1).2)] at H
      exact H
    · rintro k i s hi ⟨rfl, hI⟩ next
      unfold wl_MO_whereOf_37
      have ho := eo_lt (q := q) (e := E) (p := i) (by omega)
      rw [nI_clamp (by omega), X.2.1.1 i (by omega)]
      refine q_le (a := 4) (fun z => by omega) (fun _ => ⟨vp_in_nI (by omega) (by omega), q_ne (fun z => q_x ?_) (fun z => ?_)⟩)
      · rw [nI_1]
        refine next s ⟨rfl, fun j hj => ?_⟩
        by_cases f : j = i
        · rw [f]; exact z
        · exact hI j (by omega)
      · have hi2 := X.2.2.2.1.2 i (by omega)
        rw [z] at hi2
        rw [if_pos ⟨hi2.2.1, by omega⟩, hi2.2.2, mw, if_neg (by omega), if_neg (by omega)] at H
        exact H
  · rw [if_neg c, if_neg d, if_pos e] at H; exact H
  · rw [if_neg c, if_pos d] at H; exact H
  · rw [if_pos c] at H; exact H
/-- the first flaw's place: 0 none -/
def flc (W : Nat → Nat) (c v s d : Nat) : Nat := if c = 7 then (if v = 0 then (if s = 0 then (if d = 0 then 12 else 0) else 8) else 4) else if c = 4 then (if s < 2147483648 then 0 else 8) else if c = 5 then (if pwb v = true then (if 1 ≤ s ∧ s ≤ 4096 then (if d = 1 then 0 else 12) else 8) else 4) else if v ≤ W c then (if v + s ≤ W c then 0 else 8) else 4
theorem nI_neg {v : Nat} (h : v < 4294967296) : nI v < 0 ↔ 2147483648 ≤ v := by
  by_cases c : v < 2147483648
  · exact ⟨fun h => absurd h (nI_pos (by omega)), fun h => by omega⟩
  · refine ⟨fun _ => by omega, fun _ => ?_⟩
    rw [ti_lt]
    have : (nI v).toInt = (v : Int) - 4294967296 := by
      show (Int32.ofNat v).toInt = _
      rw [Int32.toInt_ofNat', show Int32.size = 4294967296 from rfl, Int.bmod_def]
      split <;> omega
    rw [this]
    simp only [Int32.reduceToInt]
    omega
theorem nI_ti {v : Nat} (h : v < 4294967296) (h2 : 2147483648 ≤ v) : (nI v).toInt = (v : Int) - 4294967296 := by
  show (Int32.ofNat v).toInt = _
  rw [Int32.toInt_ofNat', show Int32.size = 4294967296 from rfl, Int.bmod_def]
  split <;> omega
theorem nI_z {v : Nat} (h : v < 4294967296) : nI v = 0 ↔ v = 0 := by
  constructor
  · intro e
    by_cases c : v < 2147483648
    · rw [show (0 : Int32) = nI 0 from rfl, nI_eq (by omega) (by omega)] at e; exact e
    · have := (nI_neg h).mpr (by omega)
      rw [e] at this
      exact absurd this (by decide)
  · rintro rfl; rfl
def fc (k : Nat) : Int32 := if k = 0 then -1 else if k = 4 then 1 else if k = 8 then 2 else 3
theorem k_first {post : Int32 → gMem → Prop} {a c d : Bool} (H : post (if a = true then (if c = true then (if d = true then -1 else 3) else 2) else 1) M) : wp_OF_firstFlaw post (bI a) (bI c) (bI d) M := by
  unfold wp_OF_firstFlaw
  refine q_bn (fun x => q_bn (fun y => q_b (fun z => ?_) (fun z => ?_)) (fun y => ?_)) (fun x => ?_)
  · rw [if_pos x, if_pos y, if_neg (by rw [z]; simp)] at H; exact H
  · rw [if_pos x, if_pos y, if_pos z] at H; exact H
  · rw [if_pos x, if_neg (by rw [y]; simp)] at H; exact H
  · rw [if_neg (by rw [x]; simp)] at H; exact H
theorem k_flaw {post : Int32 → gMem → Prop} {c v s d r : Nat} (hc : c ≤ 7) (h6 : c ≠ 6) (hv : v < 4294967296) (hs : s < 4294967296) (hd : d < 16) (hr : c ≤ 3 → r = W c ∧ r ≤ 4096) (hr2 : r ≤ 4096) (H : post (fc (flc W c v s d)) M) : wp_OF_flawOf post (cw c) (nI v) (nI s) (nI d) (nI r).toInt64 M := by
  unfold wp_OF_flawOf
  unfold flc at H
  rw [nI_l (n := r) (by omega)]
  by_cases c7 : c = 7
  · subst c7
    rw [if_pos rfl] at H
    refine q_t rfl ?_
    unfold wj_OF_flawOf_45 wj_OF_flawOf_54
    refine ⟨fun e1 => ⟨fun e2 => ?_, fun e2 => ?_⟩, fun e1 => ⟨fun e2 => ?_, fun e2 => ?_⟩⟩
    · rw [nI_z hv] at e1
      rw [if_neg e1] at H
      exact ⟨fun _ => k_first (a := false) (c := false) (d := false) H, fun _ => k_first (a := false) (c := false) (d := true) H⟩
    · rw [nI_z hv] at e1
      rw [if_neg e1] at H
      exact ⟨fun _ => k_first (a := false) (c := true) (d := false) H, fun _ => k_first (a := false) (c := true) (d := true) H⟩
    · rw [nI_z hv] at e1
      rw [nI_z hs] at e2
      rw [if_pos e1, if_neg e2] at H
      exact ⟨fun _ => k_first (a := true) (c := false) (d := false) H, fun _ => k_first (a := true) (c := false) (d := true) H⟩
    · rw [nI_z hv] at e1
      rw [nI_z hs] at e2
      rw [if_pos e1, if_pos e2] at H
      refine q_eq (b := 0) (fun z => ?_) (fun z => ?_)
      · rw [if_pos z] at H; exact k_first (a := true) (c := true) (d := false) H
      · rw [if_neg z] at H; exact k_first (a := true) (c := true) (d := true) H
  · rw [if_neg c7] at H
    rw [cw, if_neg c7]
    refine q_f (fun z => ?_) (q_eq (b := 4) (fun c4 => ⟨fun e => ?_, fun e => ?_⟩) (fun c4 => q_eq (b := 5) (fun c5 => ?_) (fun c5 => ?_)))
    · rw [ti_eq, ti_nI (by omega), show ((-1 : Int32)).toInt = -1 from rfl] at z
      omega
    · rw [nI_neg hs] at e
      rw [if_pos c4, if_neg (by omega)] at H
      exact k_first (a := true) (c := false) (d := true) H
    · rw [nI_neg hs] at e
      rw [if_pos c4, if_pos (by omega)] at H
      exact k_first (a := true) (c := true) (d := true) H
    · rw [if_neg c4, if_pos c5] at H
      have fin : ∀ g : Bool, (g = true ↔ pw v) → (nI s < (1 : Int32) → wj_OF_flawOf_103 post (nI d) (bI g) M) ∧ (¬ nI s < (1 : Int32) → ((4096 : Int32) < nI s → wj_OF_flawOf_103 post (nI d) (bI g) M) ∧ (¬ (4096 : Int32) < nI s → wj_OF_flawOf_104 post (nI d) (1 : Int32) (bI g) M)) := by
        intro g hg
        have hgb : g = pwb v := by
          cases hp : pwb v
          · cases g
            · rfl
            · have := pwb_t.mpr (hg.mp rfl); rw [hp] at this; exact absurd this (by simp)
          · exact hg.mpr (pwb_t.mp hp)
        subst hgb
        have one : ∀ e : Bool, post (if pwb v = true then (if e = true then (if d = 1 then -1 else 3) else 2) else 1) M → wj_OF_flawOf_104 post (nI d) (bI e) (bI (pwb v)) M := by
          intro e He
          refine q_ne (b := 1) (fun z => ?_) (fun z => ?_)
          · rw [if_neg z] at He; exact k_first (d := false) He
          · rw [if_pos z] at He; exact k_first (d := true) He
        have bad : ¬ (1 ≤ s ∧ s ≤ 4096) → wj_OF_flawOf_103 post (nI d) (bI (pwb v)) M := by
          intro hb
          refine one false ?_
          rw [if_neg hb] at H
          cases hp : pwb v
          · rw [hp] at H; exact H
          · rw [hp] at H; exact H
        by_cases big : s < 2147483648
        · refine q_lt (b := 1) (fun z => bad (by omega)) (fun z => q_lt (a := 4096) (fun y => bad (by omega)) (fun y => one true ?_))
          rw [if_pos (show 1 ≤ s ∧ s ≤ 4096 by omega)] at H
          cases hp : pwb v
          · rw [hp] at H; exact H
          · rw [hp, if_pos rfl] at H
            rw [if_pos rfl, if_pos rfl]
            by_cases d1 : d = 1
            · rw [if_pos d1] at H ⊢; exact H
            · rw [if_neg d1] at H ⊢; exact H
        · refine q_t ?_ (bad (by omega))
          rw [ti_lt, nI_ti hs (by omega)]
          simp only [Int32.reduceToInt]
          omega
      by_cases big : v < 2147483648
      · rw [nI_l (by omega)]
        exact k_isAl (fin _ pwb_t)
      · unfold wp_OF_isAlignment
        refine q_t ?_ (fin false ⟨fun z => absurd z (by simp), fun z => by unfold pw at z; omega⟩)
        rw [Int64.lt_iff_toInt_lt, Int32.toInt_toInt64, nI_ti hv (by omega)]
        simp only [Int64.reduceToInt]
        omega
    · have hw := hr (by omega)
      rw [if_neg c4, if_neg c5] at H
      by_cases big : v < 2147483648
      · refine q_n0 ?_
        rw [nI_l (by omega)]
        have two : ∀ e : Bool, post (if e = true then (if v + s ≤ r then -1 else 2) else 1) M → wj_OF_flawOf_135 post (nI v) (nI s) (lN r) (bI e) M := by
          intro e He
          by_cases bs : s < 2147483648
          · unfold wj_OF_flawOf_135
            refine q_n0 ?_
            rw [nI_l (by omega), nI_l (by omega), lN_add]
            refine ql_lt (fun z => ?_) (fun z => ?_)
            · rw [if_neg (show ¬ v + s ≤ r by omega)] at He; exact k_first (c := false) (d := true) He
            · rw [if_pos z] at He; exact k_first (c := true) (d := true) He
          · refine q_t ((nI_neg hs).mpr (by omega)) ?_
            rw [if_neg (show ¬ v + s ≤ r by omega)] at He
            exact k_first (c := false) (d := true) He
        rw [← hw.1] at H
        refine ql_lt (fun z => two false ?_) (fun z => two true ?_)
        · rw [if_neg (by omega)] at H; exact H
        · rw [if_pos z] at H
          rw [if_pos rfl]
          by_cases y : v + s ≤ r
          · rw [if_pos y] at H ⊢; exact H
          · rw [if_neg y] at H ⊢; exact H
      · rw [if_neg (by omega)] at H
        refine q_t ((nI_neg hv).mpr (by omega)) ?_
        unfold wj_OF_flawOf_134 wj_OF_flawOf_135
        exact ⟨fun _ => k_first (a := false) (c := false) (d := true) H, fun _ => ⟨fun _ => k_first (a := false) (c := false) (d := true) H, fun _ => k_first (a := false) (c := true) (d := true) H⟩⟩
theorem k_flawIn {post : Int32 → gMem → Prop} {P : Nat} (X : kX n b T E N q B W G M) (hP : P + 15 < n) (h6 : whc q E (v2 b (P + 14)).1 ≠ 6) (H : post (fc (flc W (whc q E (v2 b (P + 14)).1) (v4 b (P + 4)).1 (v4 b (P + 8)).1 (bd b P))) M) : wp_RE_flawIn post (nI P) M := by
  have t := X.1.2.1
  unfold hT at t
  have hc := whc_le (q := q) (E := E) (w := (v2 b (P + 14)).1)
  have hbd := bd_lt (b := b) (P := P)
  generalize hcc : whc q E (v2 b (P + 14)).1 = c at *
  have main : ∀ r, (c ≤ 3 → r = W c ∧ r ≤ 4096) → r ≤ 4096 → wj_RE_flawIn_28 post (nI P) (cw c) (nI r) M := by
    intro r h1 h2
    unfold wj_RE_flawIn_28
    rw [i8, i4]
    refine k_u4 X.1.1 (k_u4 X.1.1 (k_bind X.1.1 (by omega) ?_))
    try dsimp only
    rw [lN_i, lN_i]
    exact k_flaw hc h6 (by omega) (by omega) hbd h1 h2 H
  unfold wp_RE_flawIn
  refine k_where X hP ?_
  rw [hcc]
  by_cases c7 : c = 7
  · subst c7
    exact q_t (by decide) (main 0 (by omega) (by omega))
  · have e : cw c = nI c := if_neg c7
    rw [e] at main ⊢
    refine q_n0 (q_lt (a := 3) (fun z => main 0 (by omega) (by omega)) (fun z => ⟨vp_in_nI (by omega) (by omega), ?_⟩))
    rw [nI_clamp (by omega), (X.2.2.2.2 c (by omega)).2]
    have hw : W c ≤ 4096 := by
      by_cases c3 : c = 3
      · rw [c3]; exact X.2.2.1.2.2.2.2.1
      · have := X.2.2.1.2.2.2.1 c (by omega); omega
    exact main (W c) (fun _ => ⟨rfl, hw⟩) hw
theorem m_amiss {post : Int32 → gMem → Prop} {x : Nat} (X : mX n b T E N q B W G M) (hP : B 8 + 16 * x + 15 < n) (h6 : whc q E (v2 b (B 8 + 16 * x + 14)).1 ≠ 6) (H : post (nI (flc W (whc q E (v2 b (B 8 + 16 * x + 14)).1) (v4 b (B 8 + 16 * x + 4)).1 (v4 b (B 8 + 16 * x + 8)).1 (bd b (B 8 + 16 * x)))) M) : wp_MO_amiss post (nI x) M := by
  have t := X.1.2.1
  unfold hT at t
  have hc := whc_le (q := q) (E := E) (w := (v2 b (B 8 + 16 * x + 14)).1)
  have hbd := bd_lt (b := b) (P := B 8 + 16 * x)
  unfold wp_MO_amiss
  refine m_place X (m_where X hP ?_)
  generalize hcc : whc q E (v2 b (B 8 + 16 * x + 14)).1 = c at *
  try dsimp only
  rw [i4, i8]
  refine m_read4 X.1.1 (m_read4 X.1.1 ?_)
  generalize hv : v4 b (B 8 + 16 * x + 4) = v at *
  generalize hs : v4 b (B 8 + 16 * x + 8) = s at *
  unfold flc at H
  by_cases c7 : c = 7
  · subst c7
    rw [if_pos rfl] at H
    refine q_t' rfl (ql_eq (b := 0) (fun e1 => ql_eq (b := 0) (fun e2 => m_bind X (by omega) (q_ne (b := 0) (fun e3 => ?_) (fun e3 => ?_))) (fun e2 => ?_)) (fun e1 => ?_))
    · rw [if_pos e1, if_pos e2, if_neg e3] at H; exact H
    · rw [if_pos e1, if_pos e2, if_pos e3] at H; exact H
    · rw [if_pos e1, if_neg e2] at H; exact H
    · rw [if_neg e1] at H; exact H
  · rw [if_neg c7] at H
    have e : mw c = nI c := by rw [mw, if_neg c7, if_neg h6]
    rw [e]
    refine q_f' (fun z => ?_) (q_ne (b := 5) (fun c5 => q_ne (b := 4) (fun c4 => ?_) (fun c4 => ?_)) (fun c5 => ?_))
    · rw [ti_eq, ti_nI (by omega), show ((-1 : Int32)).toInt = -1 from rfl] at z
      omega
    · rw [if_neg c4, if_neg c5] at H
      have hw : W c ≤ 4096 := by
        by_cases c3 : c = 3
        · rw [c3]; exact X.2.2.1.2.2.2.2.1
        · have := X.2.2.1.2.2.2.1 c (by omega); omega
      refine m_by X (ql_le (fun z => m_by X ?_) (fun z => ?_))
      · rw [if_pos z] at H
        try dsimp only
        rw [lN_add]
        refine ql_le (fun y => ?_) (fun y => ?_)
        · rw [if_pos y] at H; exact H
        · rw [if_neg (by omega)] at H; exact H
      · rw [if_neg (by omega)] at H; exact H
    · rw [if_pos c4] at H
      refine ql_le (b := 2147483647) (fun z => ?_) (fun z => ?_)
      · rw [if_pos (by omega)] at H; exact H
      · rw [if_neg (by omega)] at H; exact H
    · rw [if_neg (by omega), if_pos c5] at H
      refine ql_lt (a := 64) (fun z => ?_) (fun z => ?_)
      · rw [if_neg (by rw [pwb_t]; unfold pw; omega)] at H; exact H
      · rw [lN_i]
        refine m_isPow (q_bn (fun y => ?_) (fun y => ?_))
        · rw [if_pos y] at H
          refine ql_lt (b := 1) (fun w => ?_) (fun w => ql_le (b := 4096) (fun u => m_bind X (by omega) (q_eq (b := 1) (fun r => ?_) (fun r => ?_))) (fun u => ?_))
          · rw [if_neg (by omega)] at H; exact H
          · rw [if_pos ⟨w, u⟩, if_pos r] at H; exact H
          · rw [if_pos ⟨w, u⟩, if_neg r] at H; exact H
          · rw [if_neg (by omega)] at H; exact H
        · rw [if_neg (by rw [y]; simp)] at H; exact H
end
