/-! the call read -/
section
variable {n T E N : Nat} {b : Nat → Fin 256} {M : gMem} {q B W G : Nat → Nat}
def xF (b : Nat → Fin 256) (T E : Nat) (q B W : Nat → Nat) : Nat × Nat := sq (xSy b T E q B W) (sq (xR b B W) (xT b B W))
theorem xR_b : (xR b B W).1 < 64 := fs_b fun s _ _ => fs_b fun x _ _ => yR_b
theorem xT_b : (xT b B W).1 < 64 := sq_b (fs_b fun k _ _ => by unfold yT; split <;> simp) (by unfold yF; split <;> simp)
theorem xSy_b : (xSy b T E q B W).1 < 64 := sq_b (fs_b fun j _ _ => by unfold yS0; split <;> simp) (sq_b (fs_b fun j _ _ => ySy_b) yIn_b)
theorem k_faults {post : Int32 → gMem → Prop} (X : kX n b T E N q B W G M) (H : ∀ M', fr s39 M M' → ((xF b T E q B W).1 = 0 → M' 32 0 = M 32 0) → ((xF b T E q B W).1 ≠ 0 → M' 32 0 = nI (xF b T E q B W).2) → post (nI (xF b T E q B W).1) M') : wp_RE_firstFault post M := by
  unfold wp_RE_firstFault
  have hb := xSy_b (b := b) (T := T) (E := E) (q := q) (B := B) (W := W)
  have hb2 := xR_b (b := b) (B := B) (W := W)
  unfold xF at H
  refine k_syms X (fun M1 f1 a1 a2 => q_eq (b := 0) (fun z => ?_) (fun z => q_eq (b := 0) (fun c => absurd c z) (fun _ => ?_)))
  · rw [sq_t z] at H
    have X1 := kX_fr f1 X
    have g1 := a1 z
    refine k_rels X1 (q_eq (b := 0) (fun z2 => ?_) (fun z2 => ?_))
    · rw [sq_t z2] at H
      rw [tl_0 z2]
      refine k_starts X1 (H _ (f1.trans (tl_fr (Or.inl rfl))) (fun w => by rw [tl_0 w]; exact g1) (fun w => (tl_rC (M := M1)).2.2 w))
    · rw [sq_n z2] at H
      exact H _ (f1.trans (tl_fr (Or.inl rfl))) (fun w => absurd w z2) (fun w => (tl_rC (M := M1)).2.2 w)
  · rw [sq_n z] at H
    exact H _ f1 (fun w => absurd w z) a2
theorem m_faults {post : Int32 → gMem → Prop} (X : mX n b T E N q B W G M) (H0 : (xF b T E q B W).1 ≠ 0 → ∀ M', fr sT M M' → M' 41 23 = nI (xF b T E q B W).2 → post (nI (xF b T E q B W).1) M') (H1 : (xF b T E q B W).1 = 0 → post (0 : Int32) M) : ∃ n9 : Nat, wl_MO_allFaults_97 post n9 (0 : Int32) (0 : Int32) M := by
  unfold xF at H0 H1
  refine m_syms X (fun z => ?_) (fun z => ?_)
  · rw [sq_n z] at H0
    exact H0 z
  · rw [sq_t z] at H0 H1
    refine m_rels X (fun z2 => q_t rfl (m_starts X ?_)) (fun z2 => ?_)
    · rw [sq_t z2] at H0 H1
      by_cases z3 : (xT b B W).1 = 0
      · rw [z3, tm_0 z3]; exact H1 z3
      · exact H0 z3 _ (tm_fr ⟨rfl, rfl⟩) (tm_rM.2 z3)
    · rw [sq_n z2] at H0
      exact H0 z2 _ (tm_fr ⟨rfl, rfl⟩) (tm_rM.2 z2)
/-- the file as bytes -/
def fB (n : Nat) (M : gMem) (k : Nat) : Fin 256 := if k < n then ⟨(M 18 k).toBitVec.toNat % 256, Nat.mod_lt _ (by omega)⟩ else 0
theorem rV_of {M : gMem} {n : Nat} (hn : n ≤ 8192) (h1 : M 17 1 = nI n) (h2 : M 41 22 = nI n) (h3 : ∀ k, k < n → M 18 k &&& 255 = M 62 k) : rV n (fB n M) M := by
  have e : ∀ k, k < n → M 18 k &&& 255 = nI (fB n M k).1 := by
    intro k hk
    rw [pk_and (M 18 k) 8 (by decide)]
    unfold fB
    rw [if_pos hk]
  refine ⟨hn, h1, h2, fun k hk => ?_, e, fun k hk => ?_⟩
  · unfold fB; rw [if_neg (by omega)]; rfl
  · rw [← h3 k hk]; exact e k hk
/-- a byte whose number is below 128 is that number -/
theorem by_id {x : Int32} {v : Nat} (hf : fits .byte (.int x) = true) (h : x &&& 255 = nI v) (hv : v < 128) : x = nI v := by
  have h1 : (-128 : Int32) ≤ x ∧ x ≤ 127 := by
    have : (decide ((-128 : Int32) ≤ x) && decide (x ≤ 127)) = true := hf
    simpa using this
  have h2 := h1.1
  have h3 := h1.2
  rw [ti_le] at h2 h3
  rw [show (-128 : Int32).toInt = -128 from rfl] at h2
  rw [show (127 : Int32).toInt = 127 from rfl] at h3
  rw [pk_and x 8 (by decide)] at h
  have e1 : x.toBitVec.toNat % 2 ^ 8 = v := (nI_eq (by omega) (by omega)).mp h
  have e2 : x.toInt = x.toBitVec.toInt := rfl
  have e3 := BitVec.toInt_eq_toNat_cond x.toBitVec
  have e4 := x.toBitVec.isLt
  apply ti_of
  rw [e2, e3]
  rw [e2, e3] at h2 h3
  split at h2 <;> omega
/-- what no fault means -/
theorem fz_sym (h : (xF b T E q B W).1 = 0) : ∀ x, 1 ≤ x → x < W 8 / 16 → (ySy b q E B W x).1 = 0 := by
  intro x h1 h2
  have h3 := (sq_0 (sq_0 (sq_0 h).1).2).1
  exact fs_0 h3 x h1 (by omega)
theorem fz_rel (h : (xF b T E q B W).1 = 0) : ∀ s, s < 3 → ∀ x, x < W (5 + s) / 12 → (yR b W s (B (5 + s) + 12 * x)).1 = 0 := by
  intro s hs x hx
  have h3 := (sq_0 (sq_0 h).2).1
  have h4 := fs_0 h3 s (by omega) (by omega)
  exact fs_0 h4 x (by omega) (by omega)
theorem fz_st (h : (xF b T E q B W).1 = 0) : ∀ k, k < W 4 / 2 → sv b B k % 2 = 0 ∧ (k = 0 ∨ sv b B (k - 1) < sv b B k) ∧ sv b B k < W 0 := by
  intro k hk
  have h3 := (sq_0 (sq_0 (sq_0 h).2).2).1
  have h4 := fs_0 h3 k (by omega) (by omega)
  unfold yT at h4
  by_cases c : sv b B k % 2 = 0 ∧ (k = 0 ∨ sv b B (k - 1) < sv b B k) ∧ sv b B k < W 0
  · exact c
  · rw [if_neg c] at h4; exact absurd h4 (by simp)
theorem yR_0 {s P : Nat} (h : (yR b W s P).1 = 0) : pKa (nI (b (P + 4)).1) ∧ (v4 b (P + 4)).1 / 256 < W 8 / 16 ∧ (nI (b (P + 4)).1 = 43 → (v4 b (P + 8)).1 ≤ 62) ∧ (v4 b P).1 ≤ W s := by
  unfold yR at h
  by_cases c1 : kdI (nI s) (nI (b (P + 4)).1)
  · rw [if_pos c1] at h
    by_cases c2 : W 8 / 16 ≤ (v4 b (P + 4)).1 / 256
    · rw [if_pos c2] at h; exact absurd h (by simp)
    · rw [if_neg c2] at h
      by_cases c3 : decide (nI (b (P + 4)).1 = 43 ∨ nI (b (P + 4)).1 = 51) = decide ((v4 b (P + 4)).1 / 256 = 0)
      · rw [if_pos c3] at h
        by_cases c4 : nI (b (P + 4)).1 = 43 → (v4 b (P + 8)).1 ≤ 62 ∧ (v4 b (P + 8)).1 % 2 = 0
        · rw [if_pos c4] at h
          by_cases c5 : (v4 b P).1 + wdn (b (P + 4)).1 (v4 b (P + 8)).1 ≤ W s
          · exact ⟨kdI_ka c1, by omega, fun e => (c4 e).1, by omega⟩
          · rw [if_neg c5] at h; exact absurd h (by simp)
        · rw [if_neg c4] at h; exact absurd h (by simp)
      · rw [if_neg c3] at h; exact absurd h (by simp)
  · rw [if_neg c1] at h; exact absurd h (by simp)
theorem rl_in {r : Nat} (hr : r < pre W 3) : ∃ s x, s < 3 ∧ x < W (5 + s) / 12 ∧ pre W s + x = r := by
  have e3 : pre W 3 = W 5 / 12 + W 6 / 12 + W 7 / 12 := by simp [pre]
  have e0 : pre W 0 = 0 := by simp [pre]
  have e1 : pre W 1 = W 5 / 12 := by simp [pre]
  have e2 : pre W 2 = W 5 / 12 + W 6 / 12 := by simp [pre]
  by_cases c1 : r < W 5 / 12
  · exact ⟨0, r, by omega, c1, by omega⟩
  · by_cases c2 : r < W 5 / 12 + W 6 / 12
    · exact ⟨1, r - W 5 / 12, by omega, (by show r - W 5 / 12 < W 6 / 12; omega), by omega⟩
    · exact ⟨2, r - W 5 / 12 - W 6 / 12, by omega, (by show r - W 5 / 12 - W 6 / 12 < W 7 / 12; omega), by omega⟩
theorem pw_I {a : Nat} (h : pw a) : pPow (nI a) := by
  rcases h with h | h | h | h | h | h | h
  · exact Or.inl (by rw [h]; rfl)
  · exact Or.inr (Or.inl (by rw [h]; rfl))
  · exact Or.inr (Or.inr (Or.inl (by rw [h]; rfl)))
  · exact Or.inr (Or.inr (Or.inr (Or.inl (by rw [h]; rfl))))
  · exact Or.inr (Or.inr (Or.inr (Or.inr (Or.inl (by rw [h]; rfl)))))
  · exact Or.inr (Or.inr (Or.inr (Or.inr (Or.inr (Or.inl (by rw [h]; rfl))))))
  · exact Or.inr (Or.inr (Or.inr (Or.inr (Or.inr (Or.inr (by rw [h]; rfl))))))
theorem cw_mw {c : Nat} (h : c ≠ 6) : cw c = mw c := by
  unfold cw mw
  split
  · rfl
  · first | rfl | rw [if_neg h]
theorem cw_ti {c : Nat} (hc : c ≤ 7) (h6 : c ≠ 6) : -1 ≤ (mw c).toInt ∧ (mw c).toInt ≤ 5 ∧ (0 ≤ (mw c).toInt ∧ (mw c).toInt ≤ 3 → c ≤ 3) := by
  unfold mw
  by_cases c7 : c = 7
  · rw [if_pos c7, show (-1 : Int32).toInt = -1 from rfl]; omega
  · rw [if_neg c7, if_neg h6, nI_toInt (by omega)]; omega
/-- the read object, when it is filled -/
theorem ob_read {M : gMem} (F : pF n b B W G) (V : rV n b M) (hb : rFb M) (hq : ∀ x, x < W 8 / 16 - 1 → whc q E (v2 b (sP1 B x + 14)).1 ≤ 7) (hz : (xF b T E q B W).1 = 0)
    (c1 : zC W G 4 M) (c2 : yC B W 3 M) (c3 : tC b B (W 4 / 2) M) (c4 : uC b q E B (W 8 / 16 - 1) M) (c5 : eC b B W (pre W 3) M)
    (m1 : zM W G 4 M) (m2 : yM b B W 4 M) (m3 : M 46 1 = nI (W 4 / 2)) (m4 : tM b B (W 4 / 2) M) (m5 : M 54 1 = nI (W 8 / 16 - 1)) (m6 : ∀ x, x < W 8 / 16 - 1 → uM1 b q E B x M) (m7 : eM b B W (pre W 3) M) : rOb 9 1 M ∧ rIn M := by
  have F0 := F
  obtain ⟨f1, f2, f3, f4, f5, f6, f7, f8⟩ := F
  have st := fz_st hz
  have p3 := pre_le F0 (show 3 < 4 by omega)
  have w0 := f4 0 (by omega)
  have hfit : ∀ j, fits .byte (.int (M 18 j)) = true := hb 18 (by decide)
  refine ⟨⟨fun s hs => ?_, fun s k hs hk => ?_, ⟨W 4 / 2, by omega, c3.1, m3, fun k hk => ?_, fun k hk => ?_⟩, ⟨W 8 / 16 - 1, by omega, c4.1, m5, fun x hx => ?_⟩, ⟨pre W 3, p3, c5.1, m7.1, fun r hr => ?_⟩⟩, fun k hk => ?_⟩
  · obtain ⟨a1, a2⟩ := c1 s hs
    obtain ⟨a3, a4⟩ := m1 s hs
    have hw : W s ≤ if s = 3 then 4096 else 2048 := by
      by_cases c : s = 3
      · rw [if_pos c, c]; exact f5
      · rw [if_neg c]; exact f4 s (by omega)
    have hw2 : W s ≤ 4096 := by
      by_cases c : s = 3
      · rw [c]; exact f5
      · have := f4 s (by omega); omega
    show M 11 s = M 43 (4 + s) ∧ 0 ≤ (M 43 (4 + s)).toInt ∧ (M 43 (4 + s)).toInt ≤ (if s = 3 then 4096 else 2048) ∧ M 12 s = M 44 (4 + s) ∧ pPow (M 44 (4 + s))
    rw [a1, a2, a3, a4, nI_toInt (by omega)]
    refine ⟨rfl, by omega, ?_, rfl, pw_I (f8 s hs)⟩
    split
    · next c => rw [if_pos c] at hw; omega
    · next c => rw [if_neg c] at hw; omega
  · rw [show 4 * 1 + s = 4 + s by omega, (m1 s (by omega)).1] at hk
    have hw := f4 s (by omega)
    rw [nI_toInt (by omega)] at hk
    have hB := f1 s (by omega) (by omega)
    have a1 := c2 s hs k (by omega)
    have a2 := m2 s (by omega) hs k (by omega)
    rw [show 6144 * 1 + 2048 * s + k = 6144 + 2048 * s + k by omega, a2]
    show M 10 (2048 * s + k) &&& 255 = _
    rw [a1]
    exact V.2.2.2.2.1 _ (by omega)
  · have s1 := st k hk
    show M 13 k = M 45 (1024 + k) ∧ 0 ≤ (M 45 (1024 + k)).toInt ∧ (M 45 (1024 + k)).toInt ≤ 2046 ∧ (M 45 (1024 + k)).toInt % 2 = 0
    rw [c3.2 k hk, m4 k hk, nI_toInt (by omega)]
    exact ⟨rfl, by omega, by omega, by omega⟩
  · have s1 := st k (by omega)
    have s2 := st (k + 1) hk
    rw [show k + 1 - 1 = k by omega] at s2
    show (M 45 (1024 + k)).toInt < (M 45 (1024 + (k + 1))).toInt
    rw [m4 k (by omega), m4 (k + 1) hk, nI_toInt (by omega), nI_toInt (by omega)]
    omega
  · obtain ⟨u1, u2, u3, u4, u5, u6, u7⟩ := c4.2 x hx
    obtain ⟨t1, t2, t3, t4, t5, t6, t7⟩ := m6 x hx
    have y0 := ySy_0 (fz_sym hz (x + 1) (by omega) (by omega))
    obtain ⟨y1, y2, y3, y4, y5, y6⟩ := y0
    have hn := vn_in V y1
    have hg := nlc_g y1.2
    have h7 := hq x hx
    have ct := cw_ti h7 y5
    show M 14 (6 * x) = M 47 (100 + x) ∧ M 14 (6 * x + 1) = M 48 (100 + x) ∧ M 14 (6 * x + 2) = M 49 (100 + x) ∧ M 14 (6 * x + 3) = M 50 (100 + x) ∧ M 14 (6 * x + 4) = M 51 (100 + x) ∧ M 14 (6 * x + 5) = M 52 (100 + x) ∧ pSymOk (M 47 (100 + x)) (M 48 (100 + x)) (M 49 (100 + x)) (M 50 (100 + x)) (M 51 (100 + x)) (M 52 (100 + x)) ∧ ∀ i : Nat, (i : Int) < (M 52 (100 + x)).toInt → M 15 (16 * x + i) = M 53 (16 * (100 + x) + i) ∧ 33 ≤ (M 53 (16 * (100 + x) + i)).toInt ∧ (M 53 (16 * (100 + x) + i)).toInt ≤ 126
    rw [u1, u2, u3, u4, u5, u6, t1, t2, t3, t4, t5, t6]
    have y2' : bd b (sP1 B x) ≤ 2 := y2
    have y3' : ty b (sP1 B x) ≤ 2 := y3
    refine ⟨cw_mw y5, rfl, rfl, rfl, rfl, rfl, ⟨ct.1, ct.2.1, ?_, ?_, ?_, ?_, ?_, ?_, fun hw => ?_⟩, fun i hi => ?_⟩
    · rw [nI_toInt (by omega)]; omega
    · rw [nI_toInt (by omega)]; omega
    · rw [nI_toInt (by omega)]; omega
    · rw [nI_toInt (by omega)]; omega
    · rw [nI_toInt (by omega)]; omega
    · rw [nI_toInt (by omega)]; omega
    · have c3 := ct.2.2 hw
      unfold flc at y6
      have hW : W (whc q E (v2 b (B 8 + 16 * (x + 1) + 14)).1) ≤ 4096 := by
        by_cases c : whc q E (v2 b (B 8 + 16 * (x + 1) + 14)).1 = 3
        · rw [c]; exact f5
        · have : whc q E (v2 b (B 8 + 16 * (x + 1) + 14)).1 ≤ 3 := c3
          have := f4 (whc q E (v2 b (B 8 + 16 * (x + 1) + 14)).1) (by omega)
          omega
      have c3' : whc q E (v2 b (B 8 + 16 * (x + 1) + 14)).1 ≤ 3 := c3
      rw [if_neg (by omega), if_neg (by omega), if_neg (by omega)] at y6
      by_cases d1 : (v4 b (B 8 + 16 * (x + 1) + 4)).1 ≤ W (whc q E (v2 b (B 8 + 16 * (x + 1) + 14)).1)
      · rw [if_pos d1] at y6
        by_cases d2 : (v4 b (B 8 + 16 * (x + 1) + 4)).1 + (v4 b (B 8 + 16 * (x + 1) + 8)).1 ≤ W (whc q E (v2 b (B 8 + 16 * (x + 1) + 14)).1)
        · show 0 ≤ (nI (v4 b (B 8 + 16 * (x + 1) + 4)).1).toInt ∧ 0 ≤ (nI (v4 b (B 8 + 16 * (x + 1) + 8)).1).toInt
          rw [nI_toInt (by omega), nI_toInt (by omega)]
          omega
        · rw [if_neg d2] at y6; omega
      · rw [if_neg d1] at y6; omega
    · rw [nI_toInt (by omega)] at hi
      have hi' : i < nlc b (np b B (x + 1)) := by omega
      have hc := hg.2.2.2 i hi'
      rw [u7 i hi', t7 i hi', nI_toInt (by omega)]
      refine ⟨by_id (hfit _) (V.2.2.2.2.1 _ (by omega)) (by omega), by omega, by omega⟩
  · obtain ⟨u1, u2, u3, u4, u5⟩ := c5.2 r hr
    obtain ⟨t1, t2, t3, t4, t5⟩ := m7.2 r hr
    obtain ⟨s, x, hs, hx, e⟩ := rl_in hr
    have ra := rl_at (B := B) hs hx
    rw [e] at ra
    have r0 := yR_0 (fz_rel hz s hs x hx)
    rw [← ra.2] at r0
    have hw := f4 s hs
    show M 16 (5 * r) = M 55 (300 + r) ∧ M 16 (5 * r + 1) = M 56 (300 + r) ∧ M 16 (5 * r + 2) = M 57 (300 + r) ∧ M 16 (5 * r + 3) = M 58 (300 + r) ∧ M 16 (5 * r + 4) = M 59 (300 + r) ∧ pRelOk (M 55 (300 + r)) (M 56 (300 + r)) (M 57 (300 + r)) (M 58 (300 + r)) (M 59 (300 + r)) (M 54 1).toInt
    rw [u1, u2, u3, u4, u5, t1, t2, t3, t4, t5, m5, ra.1]
    have e1 : (nI ((v4 b (rlP B W r + 4)).1 / 256) - 1).toInt = ((v4 b (rlP B W r + 4)).1 / 256 : Nat) - 1 := by
      rw [ti_sub, nI_toInt (by omega)]
      · rfl
      · rw [nI_toInt (by omega), show (1 : Int32).toInt = 1 from rfl]; omega
      · rw [nI_toInt (by omega), show (1 : Int32).toInt = 1 from rfl]; omega
    refine ⟨rfl, rfl, rfl, rfl, rfl, ?_, ?_, ?_, r0.1, ?_, ?_, fun e => ?_⟩
    · rw [nI_toInt (by omega)]; omega
    · rw [nI_toInt (by omega)]; omega
    · rw [nI_toInt (by omega)]; omega
    · rw [e1]; omega
    · rw [e1, nI_toInt (by omega)]; omega
    · have := r0.2.2.1 e
      rw [nI_toInt (by omega)]; omega
  · rw [m3, nI_toInt (by omega)] at hk
    have s1 := st k (by omega)
    rw [m4 k (by omega), show M 43 4 = nI (W 0) from (m1 0 (by omega)).1, nI_toInt (by omega), nI_toInt (by omega)]
    omega
end
