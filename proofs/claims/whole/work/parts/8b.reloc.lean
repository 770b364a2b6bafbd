/-! rows of relocations -/
section
variable {n T E N : Nat} {b : Nat → Fin 256} {M : gMem} {q B W G : Nat → Nat}
theorem nI_w {v : Nat} (h : v < 2 ^ 32) : (nI v).toInt = (v : Int) ∧ v < 2 ^ 31 ∨ (nI v).toInt < 0 ∧ 2 ^ 31 ≤ v := by
  by_cases c : v < 2 ^ 31
  · exact Or.inl ⟨nI_toInt c, c⟩
  · refine Or.inr ⟨?_, by omega⟩
    have e : (nI v).toInt = (v : Int).bmod (2 ^ 32) := by
      show (Int32.ofNat v).toInt = _
      first | exact Int32.toInt_ofNat' | exact Int32.toInt_ofNat v | simp
    rw [e, Int.bmod_def]
    split <;> omega
theorem sh8 {v : Nat} (h : v < 2 ^ 32) : (((lN v).toUInt64 >>> ((8 : Int32).toInt64.toUInt64 &&& Int64.toUInt64 63)).toInt64).toInt32 = nI (v / 256) := by
  have e : ((lN v).toUInt64 >>> ((8 : Int32).toInt64.toUInt64 &&& Int64.toUInt64 63)).toInt64 = lN (v / 256) := by
    apply Int64.toBitVec_inj.mp
    apply BitVec.eq_of_toNat_eq
    rw [show ((lN v).toUInt64 >>> ((8 : Int32).toInt64.toUInt64 &&& Int64.toUInt64 63)).toInt64.toBitVec = ((lN v).toUInt64 >>> ((8 : Int32).toInt64.toUInt64 &&& Int64.toUInt64 63)).toBitVec from rfl, UInt64.toBitVec_shiftRight]
    rw [show (((8 : Int32).toInt64.toUInt64 &&& Int64.toUInt64 63)).toBitVec % 64 = 8#64 by decide]
    rw [BitVec.ushiftRight_eq', BitVec.toNat_ushiftRight, Nat.shiftRight_eq_div_pow, lN_tn (by omega)]
    rw [show (lN v).toUInt64.toBitVec.toNat = v from lN_tn (by omega), show (8#64).toNat = 8 by decide]
  rw [e, lN_i]
def wdn (k v : Nat) : Nat := (wd (nI k) (nI v)).toInt.toNat
theorem wd_n {k v : Nat} (h : nI k = 43 → v ≤ 62) : wd (nI k) (nI v) = nI (wdn k v) ∧ wdn k v ≤ 62 := by
  have key : ∃ w : Nat, w ≤ 62 ∧ wd (nI k) (nI v) = nI w := by
    unfold wd
    by_cases c : nI k = 43
    · rw [if_pos c]; exact ⟨v, h c, rfl⟩
    · rw [if_neg c]
      split
      · exact ⟨0, by omega, rfl⟩
      split
      · exact ⟨1, by omega, rfl⟩
      split
      · exact ⟨1, by omega, rfl⟩
      split
      · exact ⟨2, by omega, rfl⟩
      split
      · exact ⟨2, by omega, rfl⟩
      split
      · exact ⟨2, by omega, rfl⟩
      split
      · exact ⟨2, by omega, rfl⟩
      split
      · exact ⟨8, by omega, rfl⟩
      · exact ⟨4, by omega, rfl⟩
  obtain ⟨w, h1, h2⟩ := key
  have : wdn k v = w := by unfold wdn; rw [h2, nI_toInt (by omega)]; rfl
  rw [this]
  exact ⟨h2, h1⟩
def yR (b : Nat → Fin 256) (W : Nat → Nat) (s P : Nat) : Nat × Nat :=
  if kdI (nI s) (nI (b (P + 4)).1) then
    if W 8 / 16 ≤ (v4 b (P + 4)).1 / 256 then (30, P + 4)
    else if decide (nI (b (P + 4)).1 = 43 ∨ nI (b (P + 4)).1 = 51) = decide ((v4 b (P + 4)).1 / 256 = 0) then
      if nI (b (P + 4)).1 = 43 → (v4 b (P + 8)).1 ≤ 62 ∧ (v4 b (P + 8)).1 % 2 = 0 then
        if (v4 b P).1 + wdn (b (P + 4)).1 (v4 b (P + 8)).1 ≤ W s then (0, 0) else (32, P)
      else (31, P + 8)
    else (30, P + 4)
  else (29, P + 4)
theorem yR_b {s P : Nat} : (yR b W s P).1 < 64 := by
  unfold yR
  repeat' split
  all_goals simp
theorem q_s {r : Bool} {v : Nat} {A B : Prop} (f : r = decide (v = 0) → A) (g : r ≠ decide (v = 0) → B) (hv : v < 2 ^ 31 := by omega) : (nI v = 0 → (bI (!r) = (0 : Int32) → A) ∧ (¬ bI (!r) = (0 : Int32) → B)) ∧ (¬ nI v = 0 → (bI (!r) = (1 : Int32) → A) ∧ (¬ bI (!r) = (1 : Int32) → B)) := by
  refine q_eq (b := 0) (fun z => ?_) (fun z => ?_)
  · rw [decide_eq_true z] at f g
    cases r
    · exact ⟨fun h => absurd h (by decide), fun _ => g (by decide)⟩
    · exact ⟨fun _ => f rfl, fun h => absurd rfl h⟩
  · rw [decide_eq_false z] at f g
    cases r
    · exact ⟨fun _ => f rfl, fun h => absurd rfl h⟩
    · exact ⟨fun h => absurd h (by decide), fun _ => g (by decide)⟩
theorem ql_s {r : Bool} {v : Nat} {A B : Prop} (f : r = decide (v = 0) → A) (g : r ≠ decide (v = 0) → B) (hv : v < 2 ^ 31 := by omega) : (¬ lN v = (0 : Int64) → (bI r = (0 : Int32) → A) ∧ (¬ bI r = (0 : Int32) → B)) ∧ (lN v = (0 : Int64) → (bI r = (1 : Int32) → A) ∧ (¬ bI r = (1 : Int32) → B)) := by
  refine ql_ne (b := 0) (fun z => ?_) (fun z => ?_)
  · rw [decide_eq_false z] at f g
    cases r
    · exact ⟨fun _ => f rfl, fun h => absurd rfl h⟩
    · exact ⟨fun h => absurd h (by decide), fun _ => g (by decide)⟩
  · rw [decide_eq_true z] at f g
    cases r
    · exact ⟨fun h => absurd h (by decide), fun _ => g (by decide)⟩
    · exact ⟨fun _ => f rfl, fun h => absurd rfl h⟩
theorem ad_n {k v : Nat} (hv : v < 2 ^ 32) : adOk (nI k) (nI v) ↔ (nI k = 43 → v ≤ 62 ∧ v % 2 = 0) := by
  unfold adOk
  have := nI_w hv
  constructor
  · intro h e
    have := h e
    omega
  · intro h e
    have := h e
    omega
theorem k_rowF {post : Int32 → gMem → Prop} {s P : Nat} (X : kX n b T E N q B W G M) (hs : s < 3) (hP : P + 12 ≤ n) (H : post (nI (yR b W s P).1) (tl M (yR b W s P))) : wp_RE_relocationFault post (nI s) (nI P) M := by
  have h8 := X.1.1.1
  have hw := X.2.2.1.2.1
  have hws := X.2.2.1.2.2.2.1 s hs
  unfold yR at H
  unfold wp_RE_relocationFault
  rw [i4]
  refine k_u1 X.1.1 (w_kind (fun c => ?_) (fun c => ?_))
  · rw [if_pos c] at H
    refine q_f' (by decide) ?_
    unfold wp_RE_symbolNumber
    rw [i4]
    refine k_u4 X.1.1 ?_
    try dsimp only
    rw [sh8 (by omega)]
    refine ⟨in_8, ?_⟩
    rw [cl_8, (X.2.2.2.2 8 (by omega)).2, show nI (W 8) / (16 : Int32) = nI (W 8 / 16) from pk_div (d := 16) (by omega) (by omega) (by omega)]
    refine q_le (fun c2 => ?_) (fun c2 => w_hasSym ?_)
    · rw [if_pos c2] at H
      unfold wj_RE_relocationFault_65
      rw [i4]
      exact k_tell (f := 30) H
    · rw [if_neg (by omega)] at H
      unfold wj_RE_relocationFault_62
      refine q_s (fun c3 => ?_) (fun c3 => ?_)
      · rw [if_pos c3] at H
        rw [i8]
        refine k_u4 X.1.1 (q_x ?_)
        rw [lN_i]
        refine w_addend (fun c4 => ?_) (fun c4 => ?_)
        · rw [ad_n (by omega)] at c4
          rw [if_pos c4] at H
          refine q_f' (by decide) (k_u4 X.1.1 (w_width (fun c5 => ?_) (fun c5 => absurd (kdI_ka c) c5)))
          have hwd := wd_n (k := (b (P + 4)).1) (v := (v4 b (P + 8)).1) (fun e => (c4 e).1)
          have hin : vp_in (nI s) 11 := vp_in_nI (by omega) (by omega)
          rw [hwd.1, nI_clamp (by omega), (X.2.2.2.2 s (by omega)).2, nI_l (by omega), nI_l (by omega), lN_add]
          refine ⟨hin, ql_le (fun c6 => ?_) (fun c6 => ?_)⟩
          · rw [if_pos c6] at H
            exact q_t rfl H
          · rw [if_neg (by omega)] at H
            exact q_f (by decide) (k_tell (f := 32) H)
        · rw [ad_n (by omega)] at c4
          rw [if_neg c4] at H
          exact q_t' rfl (k_tell (f := 31) H)
      · rw [if_neg c3] at H
        unfold wj_RE_relocationFault_65
        rw [i4]
        exact k_tell (f := 30) H
  · rw [if_neg c] at H
    exact q_t' rfl (k_tell (f := 29) H)
theorem m_rowF {post : Int32 → gMem → Prop} {s P : Nat} (X : mX n b T E N q B W G M) (hs : s < 3) (hP : P + 12 ≤ n) (H : post (nI (yR b W s P).1) (tm M (yR b W s P))) : wp_MO_relocationFault post (nI s) (nI P) M := by
  have h8 := X.1.1.1
  have hw := X.2.2.1.2.1
  have hws := X.2.2.1.2.2.2.1 s hs
  have hs2 : ¬ nI s < 0 ∧ ¬ (2 : Int32) < nI s := by
    refine ⟨nI_pos (by omega), ?_⟩
    rw [show (2 : Int32) = nI 2 from rfl, nI_ltI (by omega) (by omega)]
    omega
  unfold yR at H
  unfold wp_MO_relocationFault
  rw [i4]
  refine m_read4 X.1.1 (q_x (q_x ?_))
  have e1 : lN (v4 b (P + 4)).1 - lN (v4 b (P + 4)).1 / (256 : Int64) * (256 : Int64) = lN (b (P + 4)).1 := by
    rw [show (256 : Int64) = lN 256 from rfl, pk_lRem (by omega) (by omega) (by omega)]
    have : (v4 b (P + 4)).1 % 256 = (b (P + 4)).1 := by rw [v4_e, v2_e]; omega
    rw [this]
  have e2 : lN (v4 b (P + 4)).1 / (256 : Int64) = lN ((v4 b (P + 4)).1 / 256) := pk_lDiv (b := 256) (by omega) (by omega) (by omega)
  rw [e1, e2, lN_i]
  refine m_kind hs2 (fun c => ?_) (fun c => ?_)
  · rw [if_pos c] at H
    refine q_f' (by decide) (m_symIn X ?_)
    rw [nI_l (by omega)]
    refine ql_le (fun c2 => ?_) (fun c2 => m_alone ?_)
    · rw [if_pos c2] at H
      unfold wj_MO_relocationFault_73
      rw [i4]
      exact m_fault (f := 30) H
    · rw [if_neg (by omega)] at H
      unfold wj_MO_relocationFault_70
      refine ql_s (fun c3 => ?_) (fun c3 => ?_)
      · rw [if_pos c3] at H
        rw [i8]
        refine m_read4 X.1.1 ?_
        have go : (nI (b (P + 4)).1 = 43 → (v4 b (P + 8)).1 ≤ 62 ∧ (v4 b (P + 8)).1 % 2 = 0) → wj_MO_relocationFault_119 post (nI s) (nI P) (nI (b (P + 4)).1) (lN (v4 b (P + 8)).1) M := by
          intro c4
          rw [if_pos c4] at H
          unfold wj_MO_relocationFault_119
          rw [lN_i]
          refine m_width (m_read4 X.1.1 (m_by (p := s) X ?_))
          have hwd := wd_n (k := (b (P + 4)).1) (v := (v4 b (P + 8)).1) (fun e => (c4 e).1)
          rw [hwd.1, nI_l (by omega), lN_add]
          refine ql_le (fun c6 => ?_) (fun c6 => ?_)
          · rw [if_pos c6] at H
            exact H
          · rw [if_neg (by omega)] at H
            exact m_fault (f := 32) H
        refine ⟨fun d => go (fun e => absurd e d), fun d => m_skip (fun z => ?_) (fun z => ?_)⟩
        · rw [pk_lT (by omega)] at z
          exact q_f' (by decide) (go (fun _ => by omega))
        · rw [pk_lT (by omega)] at z
          rw [if_neg (fun h => z (by have := h d; omega))] at H
          exact q_t' rfl (m_fault (f := 31) H)
      · rw [if_neg c3] at H
        unfold wj_MO_relocationFault_73
        rw [i4]
        exact m_fault (f := 30) H
  · rw [if_neg c] at H
    exact q_t' rfl (m_fault (f := 29) H)
def yRs (b : Nat → Fin 256) (B W : Nat → Nat) (s : Nat) : Nat × Nat := fs (fun x => yR b W s (B (5 + s) + 12 * x)) (W (5 + s) / 12) 0
def xR (b : Nat → Fin 256) (B W : Nat → Nat) : Nat × Nat := fs (yRs b B W) 3 0
theorem pF_12 (h : pF n b B W G) {s : Nat} (hs : s < 3) : W (5 + s) % 12 = 0 ∧ B (5 + s) + W (5 + s) ≤ n := by
  obtain ⟨a1, a2, a3, a4, a5, a6, a7, a8⟩ := h
  refine ⟨?_, a1 _ (by omega) (by omega)⟩
  rcases (by omega : s = 0 ∨ s = 1 ∨ s = 2) with e | e | e
  · rw [e]; exact a7.1
  · rw [e]; exact a7.2.1
  · rw [e]; exact a7.2.2.1
theorem k_relL {post : Int32 → gMem → Prop} {k2 : Int32 → gMem → Prop} {s : Nat} (X : kX n b T E N q B W G M) (hs : s < 3) : ∀ d x, x + d = W (5 + s) / 12 → ((fs (fun x => yR b W s (B (5 + s) + 12 * x)) d x).1 = 0 → k2 (nI (s + 1)) M) → ((fs (fun x => yR b W s (B (5 + s) + 12 * x)) d x).1 ≠ 0 → post (nI (fs (fun x => yR b W s (B (5 + s) + 12 * x)) d x).1) (tl M (fs (fun x => yR b W s (B (5 + s) + 12 * x)) d x))) → wl_RE_relocationsFault_36 post k2 (d + 1) (nI s) (nI (B (5 + s) + W (5 + s))) (nI (B (5 + s) + 12 * x)) M := by
  have h8 := X.1.1.1
  have hp := pF_12 X.2.2.1 hs
  intro d
  induction d with
  | zero =>
    intro x hx H1 H2
    unfold wl_RE_relocationsFault_36
    refine q_le (fun c => q_x ?_) (fun c => by omega)
    rw [nI_1]
    exact H1 rfl
  | succ d ih =>
    intro x hx H1 H2
    unfold wl_RE_relocationsFault_36
    unfold fs at H1 H2
    refine q_le (fun c => by omega) (fun c => k_rowF X hs (by omega) ?_)
    have hb := yR_b (b := b) (W := W) (s := s) (P := B (5 + s) + 12 * x)
    refine q_eq (b := 0) (fun z => q_x ?_) (fun z => ?_)
    · rw [if_pos z] at H1 H2
      rw [tl_0 z, i12, show B (5 + s) + 12 * x + 12 = B (5 + s) + 12 * (x + 1) by omega]
      exact ih (x + 1) (by omega) H1 H2
    · rw [if_neg z] at H2
      exact H2 z
theorem k_rels {post : Int32 → gMem → Prop} (X : kX n b T E N q B W G M) (H : post (nI (xR b B W).1) (tl M (xR b B W))) : wp_RE_relocationsFault post M := by
  have h8 := X.1.1.1
  have go : ∀ d s, s + d = 3 → post (nI (fs (yRs b B W) d s).1) (tl M (fs (yRs b B W) d s)) → wl_RE_relocationsFault_2 post (d + 1) (nI s) M := by
    intro d
    induction d with
    | zero =>
      intro s hs H
      unfold wl_RE_relocationsFault_2
      exact q_lt (a := 2) (fun c => H) (fun c => by omega)
    | succ d ih =>
      intro s hs H
      unfold wl_RE_relocationsFault_2
      have hp := pF_12 X.2.2.1 (show s < 3 by omega)
      have e5 : (5 : Int32) + nI s = nI (5 + s) := nI_add 5 s
      have hin : vp_in (nI (5 + s)) 11 := vp_in_nI (by omega) (by omega)
      rw [e5, nI_clamp (by omega), (X.2.2.2.2 (5 + s) (by omega)).1, (X.2.2.2.2 (5 + s) (by omega)).2]
      refine q_lt (a := 2) (fun c => by omega) (fun c => ⟨hin, q_x ⟨hin, q_x ?_⟩⟩)
      rw [nI_add]
      unfold fs at H
      refine ⟨W (5 + s) / 12 + 1, k_relL X (by omega) (W (5 + s) / 12) 0 (by omega) (fun z => ?_) (fun z => ?_)⟩
      · rw [if_pos (show (yRs b B W s).1 = 0 from z)] at H
        exact ih (s + 1) (by omega) H
      · rw [if_neg (show ¬ (yRs b B W s).1 = 0 from z)] at H
        exact H
  exact ⟨4, go 3 0 (by omega) H⟩
theorem m_relL {post : Int32 → gMem → Prop} {s d1 : Nat} (X : mX n b T E N q B W G M) (hs : s < 3) : ∀ d x, x + d = W (5 + s) / 12 → ((fs (fun x => yR b W s (B (5 + s) + 12 * x)) d x).1 = 0 → wl_MO_allFaults_136 post (d1 + 1) 0 (nI (s + 1)) M) → ((fs (fun x => yR b W s (B (5 + s) + 12 * x)) d x).1 ≠ 0 → post (nI (fs (fun x => yR b W s (B (5 + s) + 12 * x)) d x).1) (tm M (fs (fun x => yR b W s (B (5 + s) + 12 * x)) d x))) → wl_MO_allFaults_161 post (wl_MO_allFaults_136 post (d1 + 1)) (d + 2) 0 (nI s) (nI (W (5 + s) / 12)) (nI x) M := by
  have h8 := X.1.1.1
  have hp := pF_12 X.2.2.1 hs
  intro d
  induction d with
  | zero =>
    intro x hx H1 H2
    unfold wl_MO_allFaults_161
    refine q_le (fun c => q_x ?_) (fun c => by omega)
    rw [nI_1]
    exact H1 rfl
  | succ d ih =>
    intro x hx H1 H2
    unfold wl_MO_allFaults_161
    unfold fs at H1 H2
    rw [show (5 : Int32) + nI s = nI (5 + s) from nI_add 5 s]
    refine q_le (fun c => by omega) (fun c => q_t' rfl (m_fo (p := 5 + s) X ?_))
    try dsimp only
    rw [show (12 : Int32) = nI 12 from rfl, pk_mul, nI_add]
    refine m_rowF X hs (by omega) (q_x ?_)
    have hb := yR_b (b := b) (W := W) (s := s) (P := B (5 + s) + 12 * x)
    by_cases z : (yR b W s (B (5 + s) + 12 * x)).1 = 0
    · rw [if_pos z] at H1 H2
      rw [tm_0 z, z, nI_1]
      exact ih (x + 1) (by omega) H1 H2
    · rw [if_neg z] at H2
      have H := H2 z
      unfold wl_MO_allFaults_161
      refine ⟨fun _ => q_x ?_, fun _ => q_ne (b := 0) (fun _ => q_x ?_) (fun e => absurd e z)⟩
      · rw [nI_1]; exact t136 z hb H
      · rw [nI_1]; exact t136 z hb H
theorem m_rels {post : Int32 → gMem → Prop} (X : mX n b T E N q B W G M) (H1 : (xR b B W).1 = 0 → wj_MO_allFaults_202 post 0 M) (H2 : (xR b B W).1 ≠ 0 → post (nI (xR b B W).1) (tm M (xR b B W))) : ∃ n9, wl_MO_allFaults_136 post n9 0 0 M := by
  have h8 := X.1.1.1
  have go : ∀ d s, s + d = 3 → ((fs (yRs b B W) d s).1 = 0 → wj_MO_allFaults_202 post 0 M) → ((fs (yRs b B W) d s).1 ≠ 0 → post (nI (fs (yRs b B W) d s).1) (tm M (fs (yRs b B W) d s))) → wl_MO_allFaults_136 post (d + 1) 0 (nI s) M := by
    intro d
    induction d with
    | zero =>
      intro s hs H1 H2
      unfold wl_MO_allFaults_136
      exact q_le (a := 3) (fun c => H1 rfl) (fun c => by omega)
    | succ d ih =>
      intro s hs H1 H2
      unfold wl_MO_allFaults_136
      have hp := pF_12 X.2.2.1 (show s < 3 by omega)
      rw [show (5 : Int32) + nI s = nI (5 + s) from nI_add 5 s]
      refine q_le (a := 3) (fun c => by omega) (fun c => q_t' rfl (m_by (p := 5 + s) X (q_x ?_)))
      rw [show lN (W (5 + s)) / (12 : Int64) = lN (W (5 + s) / 12) from pk_lDiv (b := 12) (by omega) (by omega) (by omega), lN_i]
      unfold fs at H1 H2
      refine ⟨W (5 + s) / 12 + 2, m_relL X (by omega) (W (5 + s) / 12) 0 (by omega) (fun z => ?_) (fun z => ?_)⟩
      · rw [if_pos (show (yRs b B W s).1 = 0 from z)] at H1 H2
        exact ih (s + 1) (by omega) H1 H2
      · rw [if_neg (show ¬ (yRs b B W s).1 = 0 from z)] at H2
        exact H2 z
  exact ⟨4, go 3 0 (by omega) H1 H2⟩
end
