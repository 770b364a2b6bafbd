/-! filling the read object: the reference -/
section
variable {n T E N : Nat} {b : Nat → Fin 256} {M : gMem} {q B W G : Nat → Nat}
def sG (c j : Nat) : Prop := (c = 42 ∧ 6144 ≤ j) ∨ ((c = 43 ∨ c = 44) ∧ 4 ≤ j) ∨ (c = 45 ∧ 1024 ≤ j) ∨ ((c = 46 ∨ c = 54 ∨ c = 60) ∧ j = 1) ∨ (47 ≤ c ∧ c ≤ 52 ∧ 100 ≤ j) ∨ (c = 53 ∧ 1600 ≤ j) ∨ (55 ≤ c ∧ c ≤ 59 ∧ 300 ≤ j)
theorem mX_G {M' : gMem} (hf : fr sG M M') (X : mX n b T E N q B W G M) : mX n b T E N q B W G M' := by
  obtain ⟨x1, x2, x3, x4, x5⟩ := X
  refine ⟨mS_fr hf (by unfold sG; omega) (by unfold sG; omega) (by unfold sG; omega) (by unfold sG; omega) (by unfold sG; omega) (by unfold sG; omega) x1, ⟨fun p hp => ?_, fun k h1 h2 => ?_⟩, x3, x4, x5⟩
  · rw [hf 73 p (by unfold sG; omega)]; exact x2.1 p hp
  · rw [hf 74 k (by unfold sG; omega)]; exact x2.2 k h1 h2
theorem in_12 : vp_in (1 : Int32) 2 := by unfold vp_in; decide
theorem cl_1 : ((1 : Int32)).toNatClampNeg = 1 := rfl
def zM (W G : Nat → Nat) (m : Nat) (M : gMem) : Prop := ∀ s, s < m → M 43 (4 + s) = nI (W s) ∧ M 44 (4 + s) = nI (G s)
def yM (b : Nat → Fin 256) (B W : Nat → Nat) (m : Nat) (M : gMem) : Prop := ∀ s, s < m → s < 3 → ∀ k, k < W s → M 42 (6144 + 2048 * s + k) = nI (b (B s + k)).1
def s42 (s c j : Nat) : Prop := c = 42 ∧ 6144 + 2048 * s ≤ j ∧ j < 6144 + 2048 * s + 2048
theorem m_r71 {post : Int32 → gMem → Prop} {k18 : Int32 → gMem → Prop} {s : Nat} (X : mX n b T E N q B W G M) (hs : s < 4) (h43 : M 43 (4 + s) = nI (W s)) (H : ∀ M', fr (s42 s) M M' → (s < 3 → ∀ k, k < W s → M' 42 (6144 + 2048 * s + k) = nI (b (B s + k)).1) → k18 (nI (s + 1)) M') : ∃ n9, wl_MO_read_71 post k18 n9 (nI s) (0 : Int32) M := by
  have h8 := X.1.1.1
  have e4 : (4 : Int32) + nI s = nI (4 + s) := nI_add 4 s
  have hin : vp_in (nI (4 + s)) 8 := vp_in_nI (by omega) (by omega)
  by_cases c3 : s = 3
  · have hw3 := X.2.2.1.2.2.2.2.1
    refine ⟨1, ?_⟩
    unfold wl_MO_read_71
    rw [e4, nI_1]
    have hH := H M fr.refl (fun w => by omega)
    refine ⟨hin, ?_, fun _ => q_le (a := 3) (fun _ => q_x hH) (fun c => by omega)⟩
    intro _
    exact q_x hH
  · have hw := X.2.2.1.2.2.2.1 s (by omega)
    have hB := X.2.2.1.1 s (by omega) (by omega)
    refine pk_loop (fun k i M' => wl_MO_read_71 post k18 k (nI s) (nI i) M') (fun i M' => fr (s42 s) M M' ∧ ∀ k, k < i → M' 42 (6144 + 2048 * s + k) = nI (b (B s + k)).1) (W s) 0 M (by omega) ⟨fr.refl, fun k hk => by omega⟩ ?_ ?_
    · rintro k M' ⟨h1, h2⟩
      unfold wl_MO_read_71
      rw [e4, nI_1, nI_clamp (by omega), h1 43 _ (by unfold s42; omega), h43]
      exact ⟨hin, q_le (fun _ => q_x (H M' h1 (fun _ => h2))) (fun c => by omega)⟩
    · rintro k i M' hi ⟨h1, h2⟩ K
      unfold wl_MO_read_71
      have X1 := mX_G (h1.mono fun c j h => (by unfold s42 at h; unfold sG; omega)) X
      rw [e4, nI_clamp (by omega), h1 43 _ (by unfold s42; omega), h43]
      refine ⟨hin, q_le (fun c => by omega) (fun _ => q_le (a := 3) (fun c => by omega) (fun _ => m_fo (p := s) X1 ?_))⟩
      try dsimp only
      rw [nI_add, m_f X1.1.1 (by omega), show (6144 : Int32) + (2048 : Int32) * nI s + nI i = nI (6144 + 2048 * s + i) by rw [show (2048 : Int32) = nI 2048 from rfl, show (6144 : Int32) = nI 6144 from rfl, pk_mul, nI_add, nI_add], nI_clamp (by omega)]
      refine ⟨m_in X1.1.1 (by omega), vp_in_nI (by omega) (by omega), fun M2 e2 => q_x ?_⟩
      rw [nI_1]
      refine K M2 ⟨h1.trans (by rw [e2]; exact fr_upd ⟨rfl, by omega, by omega⟩), fun kk hk => ?_⟩
      by_cases d : kk = i
      · subst d; exact u_at e2
      · rw [u_ne e2]; exact h2 kk (by omega)
def sZ2 (c j : Nat) : Prop := (c = 42 ∧ 6144 ≤ j) ∨ ((c = 43 ∨ c = 44) ∧ 4 ≤ j)
theorem sZ2_G {c j : Nat} (h : sZ2 c j) : sG c j := by unfold sZ2 at h; unfold sG; omega
theorem m_r18 {post : Int32 → gMem → Prop} (X : mX n b T E N q B W G M) (hG : ∀ p, p < 4 → G p = al b T (eo q E p)) (H : ∀ M', fr sZ2 M M' → zM W G 4 M' → yM b B W 4 M' → ∀ M6 : gMem, M6 = va_up M' 46 (upd (M' 46) 1 (nI (W 4 / 2))) → ∃ n9 : Nat, wl_MO_read_147 post n9 (0 : Int32) M6) : ∃ n9, wl_MO_read_18 post n9 (0 : Int32) M := by
  have h8 := X.1.1.1
  have t := X.1.2.1
  unfold hT at t
  have hw4 := X.2.2.1.2.2.2.2.2.1
  refine pk_loop (fun k i M' => wl_MO_read_18 post k (nI i) M') (fun i M' => fr sZ2 M M' ∧ zM W G i M' ∧ yM b B W i M') 4 0 M (by omega) ⟨fr.refl, fun s hs => by omega, fun s hs => by omega⟩ ?_ ?_
  · rintro k M' ⟨h1, h2, h3⟩
    have X1 := mX_G (h1.mono fun c j h => sZ2_G h) X
    unfold wl_MO_read_18
    refine q_le (a := 4) (fun _ => m_by (p := 4) X1 ⟨in_12, ?_⟩) (fun c => by omega)
    rw [lN_i, cl_1, show nI (W 4) / (2 : Int32) = nI (W 4 / 2) from pk_div (d := 2) (by omega) (by omega) (by omega)]
    exact H M' h1 h2 h3
  · rintro k i M' hi ⟨h1, h2, h3⟩ K
    have X1 := mX_G (h1.mono fun c j h => sZ2_G h) X
    have e4 : (4 : Int32) + nI i = nI (4 + i) := nI_add 4 i
    have hin : vp_in (nI (4 + i)) 8 := vp_in_nI (by omega) (by omega)
    have ho := eo_lt (q := q) (e := E) (p := i) (by omega)
    have hgi := hG i (by omega)
    have hpw := X.2.2.1.2.2.2.2.2.2.2 i (by omega)
    unfold wl_MO_read_18
    refine q_le (a := 4) (fun c => by omega) (fun _ => ⟨vp_in_nI (by omega) (by omega), q_x (m_by (p := i) X1 ?_)⟩)
    rw [e4, nI_clamp (by omega), nI_clamp (by omega), X1.2.1.1 i (by omega), lN_i]
    refine ⟨hin, fun M2 e2 => ?_⟩
    have g2 : fr sZ2 M' M2 := by rw [e2]; exact fr_upd (Or.inr ⟨Or.inl rfl, by omega⟩)
    have X2 := mX_G (g2.mono fun c j h => sZ2_G h) X1
    have go : ∀ M3 : gMem, M3 = va_up M2 44 (upd (M2 44) (4 + i) (nI (G i))) → ∃ n9 : Nat, wl_MO_read_71 post (wl_MO_read_18 post k) n9 (nI i) (0 : Int32) M3 := by
      intro M3 e3
      have g3 : fr sZ2 M2 M3 := by rw [e3]; exact fr_upd (Or.inr ⟨Or.inr rfl, by omega⟩)
      have X3 := mX_G (g3.mono fun c j h => sZ2_G h) X2
      refine m_r71 X3 hi (by rw [u_ne e3]; exact u_at e2) (fun M4 f4 y4 => ?_)
      have g4 : fr sZ2 M3 M4 := f4.mono fun c j h => Or.inl (by unfold s42 at h; omega)
      refine K M4 ⟨h1.trans (g2.trans (g3.trans g4)), fun s hs => ?_, fun s hs h3s kk hk => ?_⟩
      · rw [f4 43 _ (by unfold s42; omega), f4 44 _ (by unfold s42; omega)]
        by_cases c : s = i
        · subst c
          rw [u_ne e3, u_at e2, u_at e3]
          exact ⟨rfl, rfl⟩
        · rw [u_ne e3, u_ne e2, u_ne e3, u_ne e2]
          exact h2 s (by omega)
      · by_cases c : s = i
        · subst c; exact y4 h3s kk hk
        · have := X.2.2.1.2.2.2.1 s h3s
          rw [f4 42 _ (by unfold s42; omega), u_ne e3, u_ne e2]
          exact h3 s (by omega) h3s kk hk
    refine q_ne (b := 0) (fun c => m_told (i := 8) X2.1 ?_) (fun c => ?_)
    · rw [al, if_neg c] at hgi
      try dsimp only
      rw [lN_i, ← hgi]
      exact ⟨hin, go⟩
    · rw [al, if_pos c] at hgi
      refine ⟨hin, fun M3 e3 => go M3 ?_⟩
      rw [hgi]; exact e3
/-- starts -/
def tM (b : Nat → Fin 256) (B : Nat → Nat) (m : Nat) (M : gMem) : Prop := ∀ k, k < m → M 45 (1024 + k) = nI (sv b B k)
def s45 (c j : Nat) : Prop := c = 45 ∧ 1024 ≤ j
theorem m_r147 {post : Int32 → gMem → Prop} (X : mX n b T E N q B W G M) (h46 : M 46 1 = nI (W 4 / 2)) (H : ∀ M', fr s45 M M' → tM b B (W 4 / 2) M' → ∀ M9 : gMem, M9 = va_up M' 54 (upd (M' 54) 1 (nI (W 8 / 16 - 1))) → ∃ n9 : Nat, wl_MO_read_200 post n9 (0 : Int32) M9) : ∃ n9, wl_MO_read_147 post n9 (0 : Int32) M := by
  have h8 := X.1.1.1
  have hw4 := X.2.2.1.2.2.2.2.2.1
  have hw8 := X.2.2.1.2.1
  have hB := X.2.2.1.1 4 (by omega) (by omega)
  refine pk_loop (fun k i M' => wl_MO_read_147 post k (nI i) M') (fun i M' => fr s45 M M' ∧ tM b B i M') (W 4 / 2) 0 M (by omega) ⟨fr.refl, fun s hs => by omega⟩ ?_ ?_
  · rintro k M' ⟨h1, h2⟩
    have X1 := mX_G (h1.mono fun c j h => (by unfold s45 at h; unfold sG; omega)) X
    unfold wl_MO_read_147
    rw [cl_1, h1 46 1 (by unfold s45; omega), h46]
    refine ⟨in_12, q_le (fun _ => m_symIn X1 ⟨in_12, ?_⟩) (fun c => by omega)⟩
    rw [show nI (W 8 / 16) - (1 : Int32) = nI (W 8 / 16 - 1) from pk_sub (b := 1) (by omega)]
    exact H M' h1 h2
  · rintro k i M' hi ⟨h1, h2⟩ K
    have X1 := mX_G (h1.mono fun c j h => (by unfold s45 at h; unfold sG; omega)) X
    unfold wl_MO_read_147
    rw [cl_1, h1 46 1 (by unfold s45; omega), h46]
    refine ⟨in_12, q_le (fun c => by omega) (fun _ => m_fo (p := 4) X1 ?_)⟩
    try dsimp only
    rw [show (2 : Int32) * nI i = nI (2 * i) from pk_mul 2 i, nI_add, show (1024 : Int32) + nI i = nI (1024 + i) from nI_add 1024 i, nI_clamp (by omega)]
    refine m_read2 X1.1.1 ⟨vp_in_nI (by omega) (by omega), fun M2 e2 => q_x ?_⟩
    rw [nI_1]
    refine K M2 ⟨h1.trans (by rw [e2]; exact fr_upd ⟨rfl, by omega⟩), fun s hs => ?_⟩
    by_cases c : s = i
    · subst c; exact u_at e2
    · rw [u_ne e2]; exact h2 s (by omega)
/-- symbols -/
def uM1 (b : Nat → Fin 256) (q : Nat → Nat) (E : Nat) (B : Nat → Nat) (x : Nat) (M : gMem) : Prop := M 47 (100 + x) = mw (whc q E (v2 b (sP1 B x + 14)).1) ∧ M 48 (100 + x) = nI (v4 b (sP1 B x + 4)).1 ∧ M 49 (100 + x) = nI (v4 b (sP1 B x + 8)).1 ∧ M 50 (100 + x) = nI (bd b (sP1 B x)) ∧ M 51 (100 + x) = nI (ty b (sP1 B x)) ∧ M 52 (100 + x) = nI (nlc b (np b B (x + 1))) ∧ ∀ i, i < nlc b (np b B (x + 1)) → M 53 (16 * (100 + x) + i) = nI (b (np b B (x + 1) + i)).1
def sU2 (c j : Nat) : Prop := (47 ≤ c ∧ c ≤ 52 ∧ 100 ≤ j) ∨ (c = 53 ∧ 1600 ≤ j)
theorem sU2_G {c j : Nat} (h : sU2 c j) : sG c j := by unfold sU2 at h; unfold sG; omega
def sU3 (x c j : Nat) : Prop := (47 ≤ c ∧ c ≤ 52 ∧ j = 100 + x) ∨ (c = 53 ∧ 16 * (100 + x) ≤ j ∧ j < 16 * (100 + x) + 16)
theorem sU3_2 {x c j : Nat} (h : sU3 x c j) : sU2 c j := by unfold sU3 at h; unfold sU2; omega
theorem nl_is {p m : Nat} (g : gn b p (nlc b p)) (h1 : (b (p + m)).1 = 0) (h2 : ∀ i, i < m → (b (p + i)).1 ≠ 0) : m = nlc b p := by
  obtain ⟨g1, g2, g3, g4⟩ := g
  by_cases c : m < nlc b p
  · have := g4 m c; omega
  · by_cases d : nlc b p < m
    · exact absurd g3 (h2 _ d)
    · omega
theorem m_takeS {post : gMem → Prop} {x : Nat} (X : mX n b T E N q B W G M) (hx : x < 100) (hP : sP1 B x + 16 ≤ n) (hv : vn b B W (x + 1)) (H : ∀ M', fr (sU3 x) M M' → uM1 b q E B x M' → post M') : wp_MO_takeSymbol post (nI (100 + x)) (nI (x + 1)) M := by
  have h8 := X.1.1.1
  have hn := vn_in X.1.1 hv
  have hg := nlc_g hv.2
  have h9 := X.2.2.1.2.2.1
  have hB9 := X.2.2.1.1 9 (by omega) (by omega)
  have ep : (v4 b (sP1 B x)).1 < W 9 := hv.1
  have hP2 : B 8 + 16 * (x + 1) + 16 ≤ n := hP
  unfold wp_MO_takeSymbol
  refine m_place X (m_nameP X (by omega) ?_)
  refine m_nl (z := B 9 + W 9 - 1) X.1.1 (by omega) h9.2 (by show B 9 + (v4 b (sP1 B x)).1 ≤ _; omega) (fun m a1 a2 a3 => ?_)
  have em : m = nlc b (np b B (x + 1)) := nl_is hg a2 a3
  subst em
  have hin : vp_in (nI (100 + x)) 200 := vp_in_nI (by omega) (by omega)
  rw [nI_clamp (by omega)]
  refine ⟨hin, fun M7 e7 => ?_⟩
  have f7 : fr (sU3 x) M M7 := by rw [e7]; exact fr_upd (Or.inl ⟨by omega, by omega, rfl⟩)
  show ∃ n9 : Nat, wl_MO_takeSymbol_24 post n9 (nI (100 + x)) (nI (x + 1)) (nI (sP1 B x)) (0 : Int32) M7
  refine pk_loop (fun k i M' => wl_MO_takeSymbol_24 post k (nI (100 + x)) (nI (x + 1)) (nI (sP1 B x)) (nI i) M') (fun i M' => fr (sU3 x) M M' ∧ M' 52 (100 + x) = nI (nlc b (np b B (x + 1))) ∧ ∀ j, j < i → M' 53 (16 * (100 + x) + j) = nI (b (np b B (x + 1) + j)).1) (nlc b (np b B (x + 1))) 0 M7 (by omega) ⟨f7, u_at e7, fun j hj => by omega⟩ ?_ ?_
  · rintro k M' ⟨h1, h2, h3⟩
    have X1 := mX_G (h1.mono fun c j h => sU2_G (sU3_2 h)) X
    unfold wl_MO_takeSymbol_24
    rw [nI_clamp (by omega), h2, i8, i4, i12]
    refine ⟨hin, q_le (fun _ => m_where X1 (by omega) ⟨hin, fun M10 e10 => ?_⟩) (fun c => by omega)⟩
    have f10 : fr (sU3 x) M' M10 := by rw [e10]; exact fr_upd (Or.inl ⟨by omega, by omega, rfl⟩)
    have X10 := mX_G (f10.mono fun c j h => sU2_G (sU3_2 h)) X1
    refine m_read4 X10.1.1 ⟨hin, fun M13 e13 => ?_⟩
    rw [lN_i] at e13
    have f13 : fr (sU3 x) M10 M13 := by rw [e13]; exact fr_upd (Or.inl ⟨by omega, by omega, rfl⟩)
    have X13 := mX_G (f13.mono fun c j h => sU2_G (sU3_2 h)) X10
    refine m_read4 X13.1.1 ⟨hin, fun M16 e16 => ?_⟩
    rw [lN_i] at e16
    have f16 : fr (sU3 x) M13 M16 := by rw [e16]; exact fr_upd (Or.inl ⟨by omega, by omega, rfl⟩)
    have X16 := mX_G (f16.mono fun c j h => sU2_G (sU3_2 h)) X13
    refine m_bind X16 (by omega) ⟨hin, fun M19 e19 => ?_⟩
    have f19 : fr (sU3 x) M16 M19 := by rw [e19]; exact fr_upd (Or.inl ⟨by omega, by omega, rfl⟩)
    have X19 := mX_G (f19.mono fun c j h => sU2_G (sU3_2 h)) X16
    rw [m_f X19.1.1 (by omega), pk_andN (by omega) 4 (by decide)]
    refine ⟨m_in X19.1.1 (by omega), hin, fun M20 e20 => ?_⟩
    have f20 : fr (sU3 x) M19 M20 := by rw [e20]; exact fr_upd (Or.inl ⟨by omega, by omega, rfl⟩)
    refine H M20 (h1.trans (f10.trans (f13.trans (f16.trans (f19.trans f20))))) ⟨?_, ?_, ?_, ?_, ?_, ?_, fun j hj => ?_⟩
    · rw [u_ne e20, u_ne e19, u_ne e16, u_ne e13]; exact u_at e10
    · rw [u_ne e20, u_ne e19, u_ne e16]; exact u_at e13
    · rw [u_ne e20, u_ne e19]; exact u_at e16
    · rw [u_ne e20]; exact u_at e19
    · exact u_at e20
    · rw [u_ne e20, u_ne e19, u_ne e16, u_ne e13, u_ne e10]; exact h2
    · rw [u_ne e20, u_ne e19, u_ne e16, u_ne e13, u_ne e10]; exact h3 j hj
  · rintro k i M' hi ⟨h1, h2, h3⟩ K
    have X1 := mX_G (h1.mono fun c j h => sU2_G (sU3_2 h)) X
    unfold wl_MO_takeSymbol_24
    rw [nI_clamp (by omega), h2]
    refine ⟨hin, q_le (fun c => by omega) (fun _ => m_nameP X1 (by omega) ?_)⟩
    try dsimp only
    rw [show B 9 + (v4 b (B 8 + 16 * (x + 1))).1 = np b B (x + 1) from rfl, nI_add, m_f X1.1.1 (by omega), show (16 : Int32) * nI (100 + x) + nI i = nI (16 * (100 + x) + i) by rw [show (16 : Int32) = nI 16 from rfl, pk_mul, nI_add], nI_clamp (by omega)]
    refine ⟨m_in X1.1.1 (by omega), vp_in_nI (by omega) (by omega), fun M2 e2 => q_x ?_⟩
    rw [nI_1]
    refine K M2 ⟨h1.trans (by rw [e2]; exact fr_upd (Or.inr ⟨rfl, by omega, by omega⟩)), by rw [u_ne e2]; exact h2, fun j hj => ?_⟩
    by_cases c : j = i
    · subst c; exact u_at e2
    · rw [u_ne e2]; exact h3 j (by omega)
theorem m_r200 {post : Int32 → gMem → Prop} (X : mX n b T E N q B W G M) (hv : ∀ y, 1 ≤ y → y < W 8 / 16 → vn b B W y) (h54 : M 54 1 = nI (W 8 / 16 - 1)) (H : ∀ M', fr sU2 M M' → (∀ x, x < W 8 / 16 - 1 → uM1 b q E B x M') → ∀ M10 : gMem, M10 = va_up M' 60 (upd (M' 60) 1 (nI 0)) → ∃ n9 : Nat, wl_MO_read_236 post n9 (0 : Int32) M10) : ∃ n9, wl_MO_read_200 post n9 (0 : Int32) M := by
  have h8 := X.1.1.1
  have hw8 := X.2.2.1.2.1
  have hB := X.2.2.1.1 8 (by omega) (by omega)
  refine pk_loop (fun k i M' => wl_MO_read_200 post k (nI i) M') (fun i M' => fr sU2 M M' ∧ ∀ x, x < i → uM1 b q E B x M') (W 8 / 16 - 1) 0 M (by omega) ⟨fr.refl, fun s hs => by omega⟩ ?_ ?_
  · rintro k M' ⟨h1, h2⟩
    unfold wl_MO_read_200
    rw [cl_1, h1 54 1 (by unfold sU2; omega), h54]
    exact ⟨in_12, q_le (fun _ => ⟨in_12, H M' h1 h2⟩) (fun c => by omega)⟩
  · rintro k i M' hi ⟨h1, h2⟩ K
    have X1 := mX_G (h1.mono fun c j h => sU2_G h) X
    unfold wl_MO_read_200
    rw [cl_1, h1 54 1 (by unfold sU2; omega), h54, show (100 : Int32) + nI i = nI (100 + i) from nI_add 100 i, show (1 : Int32) + nI i = nI (i + 1) by rw [Nat.add_comm]; exact nI_add 1 i]
    refine ⟨in_12, q_le (fun c => by omega) (fun _ => m_takeS X1 (by omega) (by unfold sP1; omega) (hv (i + 1) (by omega) (by omega)) (fun M2 f2 u2 => q_x ?_))⟩
    rw [nI_1]
    refine K M2 ⟨h1.trans (f2.mono fun c j h => sU3_2 h), fun x hx => ?_⟩
    by_cases c : x = i
    · rw [c]; exact u2
    · obtain ⟨u1, u2, u3, u4, u5, u6, u7⟩ := h2 x (by omega)
      have o : ∀ c, 47 ≤ c → c ≤ 52 → M2 c (100 + x) = M' c (100 + x) := fun c _ _ => f2 c _ (by unfold sU3; omega)
      refine ⟨by rw [o 47 (by omega) (by omega)]; exact u1, by rw [o 48 (by omega) (by omega)]; exact u2, by rw [o 49 (by omega) (by omega)]; exact u3, by rw [o 50 (by omega) (by omega)]; exact u4, by rw [o 51 (by omega) (by omega)]; exact u5, by rw [o 52 (by omega) (by omega)]; exact u6, fun j hj => ?_⟩
      have := vn_in X.1.1 (hv (x + 1) (by omega) (by omega))
      rw [f2 53 _ (by unfold sU3; omega)]
      exact u7 j hj
/-- relocations -/
def eM1 (b : Nat → Fin 256) (B W : Nat → Nat) (r : Nat) (M : gMem) : Prop := M 55 (300 + r) = nI (rlS W r) ∧ M 56 (300 + r) = nI (v4 b (rlP B W r)).1 ∧ M 57 (300 + r) = nI (b (rlP B W r + 4)).1 ∧ M 58 (300 + r) = nI ((v4 b (rlP B W r + 4)).1 / 256) - 1 ∧ M 59 (300 + r) = nI (v4 b (rlP B W r + 8)).1
def eM (b : Nat → Fin 256) (B W : Nat → Nat) (m : Nat) (M : gMem) : Prop := M 60 1 = nI m ∧ ∀ r, r < m → eM1 b B W r M
def sE2 (c j : Nat) : Prop := (55 ≤ c ∧ c ≤ 59 ∧ 300 ≤ j) ∨ (c = 60 ∧ j = 1)
theorem sE2_G {c j : Nat} (h : sE2 c j) : sG c j := by unfold sE2 at h; unfold sG; omega
theorem m_takeR {post : gMem → Prop} {s i r P : Nat} (X : mX n b T E N q B W G M) (hr : rlS W r = s ∧ rlP B W r = P) (hr3 : r < 300) (hP : P + 12 ≤ n) (h9 : eM b B W r M) (H : ∀ M', fr sE2 M M' → eM b B W (r + 1) M' → post M') : wp_MO_takeRelocation post (nI s) (nI P) M := by
  have h8 := X.1.1.1
  unfold wp_MO_takeRelocation
  have hin : vp_in (nI (300 + r)) 600 := vp_in_nI (by omega) (by omega)
  rw [cl_1, h9.1, show (300 : Int32) + nI r = nI (300 + r) from nI_add 300 r, i4, i8]
  refine ⟨in_12, q_x ⟨hin, ?_⟩⟩
  rw [nI_clamp (show 300 + r < 2 ^ 31 by omega)]
  intro M2 e2
  have f2 : fr sE2 M M2 := by rw [e2]; exact fr_upd (Or.inl ⟨by omega, by omega, by omega⟩)
  have X2 := mX_G (f2.mono fun c j h => sE2_G h) X
  refine m_read4 X2.1.1 ⟨hin, fun M5 e5 => ?_⟩
  rw [lN_i] at e5
  have f5 : fr sE2 M2 M5 := by rw [e5]; exact fr_upd (Or.inl ⟨by omega, by omega, by omega⟩)
  have X5 := mX_G (f5.mono fun c j h => sE2_G h) X2
  rw [m_f X5.1.1 (by omega)]
  refine ⟨m_in X5.1.1 (by omega), hin, fun M6 e6 => ?_⟩
  have f6 : fr sE2 M5 M6 := by rw [e6]; exact fr_upd (Or.inl ⟨by omega, by omega, by omega⟩)
  have X6 := mX_G (f6.mono fun c j h => sE2_G h) X5
  refine m_read4 X6.1.1 ⟨hin, fun M9 e9 => ?_⟩
  rw [show lN (v4 b (P + 4)).1 / (256 : Int64) = lN ((v4 b (P + 4)).1 / 256) from pk_lDiv (b := 256) (by omega) (by omega) (by omega), lN_i] at e9
  have f9 : fr sE2 M6 M9 := by rw [e9]; exact fr_upd (Or.inl ⟨by omega, by omega, by omega⟩)
  have X9 := mX_G (f9.mono fun c j h => sE2_G h) X6
  refine m_read4 X9.1.1 ⟨hin, fun M12 e12 => ⟨in_12, in_12, fun M13 e13 => ?_⟩⟩
  rw [lN_i] at e12
  have f12 : fr sE2 M9 M12 := by rw [e12]; exact fr_upd (Or.inl ⟨by omega, by omega, by omega⟩)
  rw [show M12 60 1 = nI r by rw [u_ne e12, u_ne e9, u_ne e6, u_ne e5, u_ne e2]; exact h9.1, nI_1] at e13
  have f13 : fr sE2 M12 M13 := by rw [e13]; exact fr_upd (Or.inr ⟨rfl, rfl⟩)
  refine H M13 (f2.trans (f5.trans (f6.trans (f9.trans (f12.trans f13))))) ⟨u_at e13, fun x hx => ?_⟩
  by_cases c : x = r
  · subst c
    unfold eM1
    rw [hr.1, hr.2]
    refine ⟨?_, ?_, ?_, ?_, ?_⟩
    · rw [u_ne e13, u_ne e12, u_ne e9, u_ne e6, u_ne e5]; exact u_at e2
    · rw [u_ne e13, u_ne e12, u_ne e9, u_ne e6]; exact u_at e5
    · rw [u_ne e13, u_ne e12, u_ne e9]; exact u_at e6
    · rw [u_ne e13, u_ne e12]; exact u_at e9
    · rw [u_ne e13]; exact u_at e12
  · have o : ∀ c, 55 ≤ c → c ≤ 59 → M13 c (300 + x) = M c (300 + x) := fun c _ _ => by rw [u_ne e13, u_ne e12, u_ne e9, u_ne e6, u_ne e5, u_ne e2]
    obtain ⟨u1, u2, u3, u4, u5⟩ := h9.2 x (by omega)
    exact ⟨by rw [o 55 (by omega) (by omega)]; exact u1, by rw [o 56 (by omega) (by omega)]; exact u2, by rw [o 57 (by omega) (by omega)]; exact u3, by rw [o 58 (by omega) (by omega)]; exact u4, by rw [o 59 (by omega) (by omega)]; exact u5⟩
theorem m_r236 {post : Int32 → gMem → Prop} (X : mX n b T E N q B W G M) (h60 : M 60 1 = nI 0) (H : ∀ M', fr sE2 M M' → eM b B W (pre W 3) M' → post (0 : Int32) M') : ∃ n9, wl_MO_read_236 post n9 (0 : Int32) M := by
  have h8 := X.1.1.1
  refine pk_loop (fun k i M' => wl_MO_read_236 post k (nI i) M') (fun i M' => fr sE2 M M' ∧ eM b B W (pre W i) M') 3 0 M (by omega) ⟨fr.refl, h60, fun r hr => absurd hr (by simp [pre])⟩ ?_ ?_
  · rintro k M' ⟨h1, h2⟩
    unfold wl_MO_read_236
    exact q_le (a := 3) (fun _ => H M' h1 h2) (fun c => by omega)
  · rintro k s M' hs ⟨h1, h2⟩ K
    have X1 := mX_G (h1.mono fun c j h => sE2_G h) X
    have hp := pF_12 X.2.2.1 hs
    have p1 := pre_s (W := W) hs
    have p2 := pre_le X.2.2.1 (show s + 1 < 4 by omega)
    unfold wl_MO_read_236
    rw [show (5 : Int32) + nI s = nI (5 + s) from nI_add 5 s]
    refine q_le (a := 3) (fun c => by omega) (fun _ => m_by (p := 5 + s) X1 (q_x ?_))
    rw [show lN (W (5 + s)) / (12 : Int64) = lN (W (5 + s) / 12) from pk_lDiv (b := 12) (by omega) (by omega) (by omega), lN_i]
    refine pk_loop (fun k' i M2 => wl_MO_read_257 post (wl_MO_read_236 post k) k' (nI s) (nI (W (5 + s) / 12)) (nI i) M2) (fun i M2 => fr sE2 M M2 ∧ eM b B W (pre W s + i) M2) (W (5 + s) / 12) 0 M' (by omega) ⟨h1, h2⟩ ?_ ?_
    · rintro k' M2 ⟨g1, g2⟩
      unfold wl_MO_read_257
      rw [nI_1]
      refine q_le (fun _ => q_x (K M2 ⟨g1, ?_⟩)) (fun c => by omega)
      rw [p1]; exact g2
    · rintro k' i M2 hi ⟨g1, g2⟩ K2
      have X2 := mX_G (g1.mono fun c j h => sE2_G h) X
      unfold wl_MO_read_257
      rw [show (5 : Int32) + nI s = nI (5 + s) from nI_add 5 s]
      refine q_le (fun c => by omega) (fun _ => m_fo (p := 5 + s) X2 ?_)
      try dsimp only
      rw [show (12 : Int32) * nI i = nI (12 * i) from pk_mul 12 i, nI_add]
      refine m_takeR (i := i) X2 (rl_at hs hi) (by omega) (by omega) g2 (fun M3 f3 g3 => q_x ?_)
      rw [nI_1]
      exact K2 M3 ⟨g1.trans f3, g3⟩
theorem m_fill {post : Int32 → gMem → Prop} (X : mX n b T E N q B W G M) (hG : ∀ p, p < 4 → G p = al b T (eo q E p)) (hv : ∀ y, 1 ≤ y → y < W 8 / 16 → vn b B W y) (H : ∀ M', fr sG M M' → zM W G 4 M' → yM b B W 4 M' → M' 46 1 = nI (W 4 / 2) → tM b B (W 4 / 2) M' → M' 54 1 = nI (W 8 / 16 - 1) → (∀ x, x < W 8 / 16 - 1 → uM1 b q E B x M') → eM b B W (pre W 3) M' → post (0 : Int32) M') : ∃ n9, wl_MO_read_18 post n9 (0 : Int32) M := by
  refine m_r18 X hG (fun M1 f1 z1 y1 M2 e2 => ?_)
  have g1 : fr sG M M1 := f1.mono fun c j h => sZ2_G h
  have g2 : fr sG M1 M2 := by rw [e2]; exact fr_upd (by unfold sG; omega)
  have X2 := mX_G (g1.trans g2) X
  refine m_r147 X2 (u_at e2) (fun M3 f3 t3 M4 e4 => ?_)
  have g3 : fr sG M2 M3 := f3.mono fun c j h => (by unfold s45 at h; unfold sG; omega)
  have g4 : fr sG M3 M4 := by rw [e4]; exact fr_upd (by unfold sG; omega)
  have X4 := mX_G (g3.trans g4) X2
  refine m_r200 X4 hv (u_at e4) (fun M5 f5 u5 M6 e6 => ?_)
  have g5 : fr sG M4 M5 := f5.mono fun c j h => sU2_G h
  have g6 : fr sG M5 M6 := by rw [e6]; exact fr_upd (by unfold sG; omega)
  have X6 := mX_G (g5.trans g6) X4
  refine m_r236 X6 (u_at e6) (fun M7 f7 v7 => ?_)
  have g7 : fr sG M6 M7 := f7.mono fun c j h => sE2_G h
  have lo : ∀ c j, c ≤ 44 → M7 c j = M1 c j := fun c j hc => by rw [f7 c j (by unfold sE2; omega), u_ne e6, f5 c j (by unfold sU2; omega), u_ne e4, f3 c j (by unfold s45; omega), u_ne e2]
  have m5 : ∀ c j, c ≤ 53 → M7 c j = M5 c j := fun c j hc => by rw [f7 c j (by unfold sE2; omega), u_ne e6]
  refine H M7 (g1.trans (g2.trans (g3.trans (g4.trans (g5.trans (g6.trans g7)))))) (fun s hs => ?_) (fun s hs h3 k hk => ?_) ?_ (fun k hk => ?_) ?_ (fun x hx => ?_) v7
  · rw [lo 43 _ (by omega), lo 44 _ (by omega)]; exact z1 s hs
  · rw [lo 42 _ (by omega)]; exact y1 s hs h3 k hk
  · rw [m5 46 _ (by omega), f5 46 _ (by unfold sU2; omega), u_ne e4, f3 46 _ (by unfold s45; omega)]; exact u_at e2
  · rw [m5 45 _ (by omega), f5 45 _ (by unfold sU2; omega), u_ne e4]; exact t3 k hk
  · rw [f7 54 1 (by unfold sE2; omega), u_ne e6, f5 54 _ (by unfold sU2; omega)]; exact u_at e4
  · obtain ⟨u1, u2, u3, u4, u5, u6, u7⟩ := u5 x hx
    exact ⟨by rw [m5 47 _ (by omega)]; exact u1, by rw [m5 48 _ (by omega)]; exact u2, by rw [m5 49 _ (by omega)]; exact u3, by rw [m5 50 _ (by omega)]; exact u4, by rw [m5 51 _ (by omega)]; exact u5, by rw [m5 52 _ (by omega)]; exact u6, fun j hj => by rw [m5 53 _ (by omega)]; exact u7 j hj⟩
end
