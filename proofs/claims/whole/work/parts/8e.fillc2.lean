/-! filling the read object: the class's symbols and relocations -/
section
variable {n T E N : Nat} {b : Nat → Fin 256} {M : gMem} {q B W G : Nat → Nat}
def sP1 (B : Nat → Nat) (x : Nat) : Nat := B 8 + 16 * (x + 1)
def uC1 (b : Nat → Fin 256) (q : Nat → Nat) (E : Nat) (B : Nat → Nat) (x : Nat) (M : gMem) : Prop := M 14 (6 * x) = cw (whc q E (v2 b (sP1 B x + 14)).1) ∧ M 14 (6 * x + 1) = nI (v4 b (sP1 B x + 4)).1 ∧ M 14 (6 * x + 2) = nI (v4 b (sP1 B x + 8)).1 ∧ M 14 (6 * x + 3) = nI (bd b (sP1 B x)) ∧ M 14 (6 * x + 4) = nI (ty b (sP1 B x)) ∧ M 14 (6 * x + 5) = nI (nlc b (np b B (x + 1))) ∧ ∀ i, i < nlc b (np b B (x + 1)) → M 15 (16 * x + i) = M 18 (np b B (x + 1) + i)
def uC (b : Nat → Fin 256) (q : Nat → Nat) (E : Nat) (B : Nat → Nat) (m : Nat) (M : gMem) : Prop := M 9 7 = nI m ∧ ∀ x, x < m → uC1 b q E B x M
def sU1 (c j : Nat) : Prop := (c = 9 ∧ j = 7) ∨ c = 14 ∨ c = 15
theorem sU_F {c j : Nat} (h : sU1 c j) : sF c j := by unfold sU1 at h; unfold sF; omega
/-- the name's characters lie in the file -/
theorem vn_in (V : rV n b M) {x : Nat} (h : vn b B W x) : np b B x + nlc b (np b B x) ≤ n ∧ 1 ≤ nlc b (np b B x) ∧ nlc b (np b B x) ≤ 16 := by
  have g := nlc_g h.2
  obtain ⟨g1, g2, g3, g4⟩ := g
  refine ⟨?_, g1, g2⟩
  have g5 := g4 (nlc b (np b B x) - 1) (by omega)
  by_cases c : np b B x + (nlc b (np b B x) - 1) < n
  · omega
  · have := V.2.2.2.1 _ (show n ≤ np b B x + (nlc b (np b B x) - 1) by omega)
    omega
theorem k_fillS {post : gMem → Prop} {x : Nat} (X : kX n b T E N q B W G M) (hb : rFb M) (hx : x < 100) (hP : sP1 B x + 16 ≤ n) (hv : vn b B W (x + 1)) (h7 : M 9 7 = nI x) (H : ∀ M', fr sU1 M M' → rFb M' → (∀ y, y < x → uC1 b q E B y M → uC1 b q E B y M') → uC1 b q E B x M' → M' 9 7 = nI (x + 1) → post M') : wp_RE_fillSymbol_9 post (nI (sP1 B x)) M := by
  have h8 := X.1.1.1
  have hn := vn_in X.1.1 hv
  have ep : (v4 b (sP1 B x)).1 < W 9 := hv.1
  have hB9 := X.2.2.1.1 9 (by omega) (by omega)
  unfold wp_RE_fillSymbol_9 wp_RE_nameSpot
  refine ⟨in_9, k_u4 X.1.1 ?_⟩
  rw [cl_9, (X.2.2.2.2 9 (by omega)).1, lN_i, nI_add, show B 9 + (v4 b (sP1 B x)).1 = np b B (x + 1) from rfl]
  refine k_nameLen X.1.1 X.2.2.1 X.2.2.2.2 (by omega) ?_
  rw [if_pos ep, show B 9 + (v4 b (sP1 B x)).1 = np b B (x + 1) from rfl, wz, if_neg (by omega)]
  generalize hp : np b B (x + 1) = p at hn ⊢
  generalize hm : nlc b p = m at hn ⊢
  unfold wp_CT_addSymbol_s_18
  rw [h7]
  have l1 : p + m ≤ 8192 := by omega
  have l2 : x * 16 + m ≤ 1600 := by omega
  have hfit : ∀ j, fits .byte (.int (M 18 j)) = true := hb 18 (by decide)
  rw [show (8192 : Int32) - nI m = nI (8192 - m) from pk_sub (a := 8192) (by omega), nI_1]
  refine q_n0 (q_le (a := 100) (fun c => by omega) (fun _ => q_lt (b := 1) (fun c => by omega) (fun _ => q_le (b := 16) (fun _ => q_n0 (q_le (fun _ => q_x (fun M2 e2 => ?_)) (fun c => by omega))) (fun c => by omega))))
  rw [show nI x * (16 : Int32) = nI (x * 16) from pk_mul x 16, show nI x * (6 : Int32) + (5 : Int32) = nI (x * 6 + 5) by rw [show (6 : Int32) = nI 6 from rfl, show (5 : Int32) = nI 5 from rfl, pk_mul, nI_add]]
  rw [nI_clamp (show p < 2 ^ 31 by omega), nI_clamp (show x * 16 < 2 ^ 31 by omega), nI_clamp (show m < 2 ^ 31 by omega), nI_clamp (show x * 6 + 5 < 2 ^ 31 by omega)]
  have b2 := upB e2 hb
  have hfit2 : ∀ j, fits .byte (.int (M2 18 j)) = true := b2 18 (by decide)
  refine ⟨nI_pos (by omega), nI_pos (by omega), nI_pos (by omega), l1, l2, fun j _ => hfit2 _, fun M3 e3 => ⟨vp_in_nI (by omega) (by omega), fun M4 e4 => ?_⟩⟩
  have f2 : fr sU1 M M2 := by rw [e2]; exact fr_upd (Or.inl ⟨rfl, rfl⟩)
  have f3 : fr sU1 M2 M3 := by rw [e3]; exact fr_cpy (fun _ _ _ => Or.inr (Or.inr rfl))
  have f4 : fr sU1 M3 M4 := by rw [e4]; exact fr_upd (Or.inr (Or.inl rfl))
  have b3 : rFb M3 := by rw [e3]; exact rFb_cpy b2 (fun j _ => hfit2 _)
  have b4 := upB e4 b3
  have f := (f2.trans f3).trans f4
  have X4 := kX_F (f.mono fun c j h => sU_F h) X
  rw [i4, i8]
  refine k_u4 X4.1.1 (q_x (k_u4 X4.1.1 (q_x ?_)))
  rw [lN_i, lN_i]
  refine k_where X4 (by omega) (k_bind X4.1.1 (by omega) (k_type X4.1.1 (by omega) ?_))
  unfold wp_CT_tellSymbol_s
  have h97 : M4 9 7 = nI (x + 1) := by rw [u_ne e4, y_ne e3]; exact u_at e2
  rw [h97]
  refine q_n0 (q_lt (fun _ => q_x ?_) (fun c => by omega))
  rw [show nI x * (6 : Int32) = nI (6 * x) by rw [show (6 : Int32) = nI 6 from rfl, pk_mul, Nat.mul_comm], show nI (6 * x) + (0 : Int32) = nI (6 * x) from nI_add (6 * x) 0, nI_1, i2, show nI (6 * x) + (3 : Int32) = nI (6 * x + 3) from nI_add _ 3, i4]
  rw [nI_clamp (show 6 * x < 2 ^ 31 by omega), nI_clamp (show 6 * x + 1 < 2 ^ 31 by omega), nI_clamp (show 6 * x + 2 < 2 ^ 31 by omega), nI_clamp (show 6 * x + 3 < 2 ^ 31 by omega), nI_clamp (show 6 * x + 4 < 2 ^ 31 by omega)]
  refine ⟨vp_in_nI (by omega) (by omega), fun M5 e5 => ⟨vp_in_nI (by omega) (by omega), fun M6 e6 => ⟨vp_in_nI (by omega) (by omega), fun M7 e7 => ⟨vp_in_nI (by omega) (by omega), fun M8 e8 => ⟨vp_in_nI (by omega) (by omega), fun M9 e9 => ?_⟩⟩⟩⟩⟩
  have f5 : fr sU1 M4 M5 := by rw [e5]; exact fr_upd (Or.inr (Or.inl rfl))
  have f6 : fr sU1 M5 M6 := by rw [e6]; exact fr_upd (Or.inr (Or.inl rfl))
  have f7 : fr sU1 M6 M7 := by rw [e7]; exact fr_upd (Or.inr (Or.inl rfl))
  have f8 : fr sU1 M7 M8 := by rw [e8]; exact fr_upd (Or.inr (Or.inl rfl))
  have f9 : fr sU1 M8 M9 := by rw [e9]; exact fr_upd (Or.inr (Or.inl rfl))
  have k14 : ∀ j, j < 6 * x ∨ 6 * x + 5 ≤ j → M9 14 j = M4 14 j := fun j hj => by rw [u_ne e9, u_ne e8, u_ne e7, u_ne e6, u_ne e5]
  have k15 : ∀ j, M9 15 j = M3 15 j := fun j => by rw [u_ne e9, u_ne e8, u_ne e7, u_ne e6, u_ne e5, u_ne e4]
  have k18 : ∀ j, M9 18 j = M 18 j := fun j => by rw [u_ne e9, u_ne e8, u_ne e7, u_ne e6, u_ne e5, u_ne e4, y_ne e3, u_ne e2]
  refine H M9 (f.trans (f5.trans (f6.trans (f7.trans (f8.trans f9))))) (upB e9 (upB e8 (upB e7 (upB e6 (upB e5 b4))))) (fun y hy u => ?_) ?_ ?_
  · have o14 : ∀ j, j < 6 * x → M9 14 j = M 14 j := fun j hj => by rw [k14 j (by omega), u_ne e4, y_ne e3, u_ne e2]
    have o15 : ∀ j, j < 16 * x → M9 15 j = M 15 j := fun j hj => by rw [k15, y_ne e3, u_ne e2]
    obtain ⟨u1, u2, u3, u4, u5, u6, u7⟩ := u
    refine ⟨by rw [o14 _ (by omega)]; exact u1, by rw [o14 _ (by omega)]; exact u2, by rw [o14 _ (by omega)]; exact u3, by rw [o14 _ (by omega)]; exact u4, by rw [o14 _ (by omega)]; exact u5, by rw [o14 _ (by omega)]; exact u6, fun i hi => ?_⟩
    by_cases ci : i < 16
    · rw [o15 _ (by omega), k18]; exact u7 i hi
    · exfalso
      have := nlc_g (b := b) (p := np b B (y + 1)) (by omega)
      unfold gn at this
      omega
  · refine ⟨by rw [u_ne e9, u_ne e8, u_ne e7, u_ne e6]; exact u_at e5, by rw [u_ne e9, u_ne e8, u_ne e7]; exact u_at e6, by rw [u_ne e9, u_ne e8]; exact u_at e7, by rw [u_ne e9]; exact u_at e8, u_at e9, ?_, fun i hi => ?_⟩
    · rw [k14 _ (by omega), show 6 * x + 5 = x * 6 + 5 by omega, hp, hm]; exact u_at e4
    · rw [hp, hm] at hi
      rw [k15, k18, hp, show 16 * x + i = x * 16 + i by omega, y_at e3 hi, u_ne e2]
  · rw [u_ne e9, u_ne e8, u_ne e7, u_ne e6, u_ne e5]; exact h97
theorem k_fl154 {post : gMem → Prop} (X : kX n b T E N q B W G M) (hb : rFb M) (hv : ∀ y, 1 ≤ y → y < W 8 / 16 → vn b B W y) (h7 : M 9 7 = nI 0) (H : ∀ M', fr sU1 M M' → rFb M' → uC b q E B (W 8 / 16 - 1) M' → ∃ n9 : Nat, wl_RE_fill_9_191 post n9 (0 : Int32) M') : ∃ n9, wl_RE_fill_9_154 post n9 (nI (W 8 / 16)) (1 : Int32) M := by
  have h8 := X.1.1.1
  have hw8 := X.2.2.1.2.1
  have hB := X.2.2.1.1 8 (by omega) (by omega)
  refine pk_loop (fun k i M' => wl_RE_fill_9_154 post k (nI (W 8 / 16)) (nI (i + 1)) M') (fun i M' => fr sU1 M M' ∧ rFb M' ∧ uC b q E B i M') (W 8 / 16 - 1) 0 M (by omega) ⟨fr.refl, hb, h7, fun s hs => by omega⟩ ?_ ?_
  · rintro k M' ⟨h1, h2, h3⟩
    unfold wl_RE_fill_9_154
    exact q_le (fun _ => H M' h1 h2 h3) (fun c => by omega)
  · rintro k i M' hi ⟨h1, h2, h3⟩ K
    have X1 := kX_F (h1.mono fun c j h => sU_F h) X
    unfold wl_RE_fill_9_154
    rw [cl_8, (X1.2.2.2.2 8 (by omega)).1, show nI (B 8) + (16 : Int32) * nI (i + 1) = nI (sP1 B i) by rw [show (16 : Int32) = nI 16 from rfl, pk_mul, nI_add]; rfl]
    refine q_le (fun c => by omega) (fun _ => ⟨in_8, k_fillS X1 h2 (by omega) (by unfold sP1; omega) (hv (i + 1) (by omega) (by omega)) h3.1 (fun M2 f2 b2 o2 u2 e2 => q_x ?_)⟩)
    rw [nI_1]
    refine K M2 ⟨h1.trans f2, b2, e2, fun x hx => ?_⟩
    by_cases c : x = i
    · rw [c]; exact u2
    · exact o2 x (by omega) (h3.2 x (by omega))
/-! relocations -/
def rlS (W : Nat → Nat) (r : Nat) : Nat := if r < W 5 / 12 then 0 else if r < W 5 / 12 + W 6 / 12 then 1 else 2
def rlP (B W : Nat → Nat) (r : Nat) : Nat := if r < W 5 / 12 then B 5 + 12 * r else if r < W 5 / 12 + W 6 / 12 then B 6 + 12 * (r - W 5 / 12) else B 7 + 12 * (r - W 5 / 12 - W 6 / 12)
def pre (W : Nat → Nat) (s : Nat) : Nat := if s = 0 then 0 else if s = 1 then W 5 / 12 else if s = 2 then W 5 / 12 + W 6 / 12 else W 5 / 12 + W 6 / 12 + W 7 / 12
theorem pre_s {s : Nat} (hs : s < 3) : pre W (s + 1) = pre W s + W (5 + s) / 12 := by
  rcases (by omega : s = 0 ∨ s = 1 ∨ s = 2) with e | e | e
  · subst e; simp [pre]
  · subst e; simp [pre]
  · subst e; simp [pre]
theorem rl_at {s x : Nat} (hs : s < 3) (hx : x < W (5 + s) / 12) : rlS W (pre W s + x) = s ∧ rlP B W (pre W s + x) = B (5 + s) + 12 * x := by
  rcases (by omega : s = 0 ∨ s = 1 ∨ s = 2) with e | e | e
  · subst e
    have e0 : pre W 0 + x = x := by simp [pre]
    rw [e0]
    unfold rlS rlP
    rw [if_pos hx, if_pos hx]
    exact ⟨rfl, rfl⟩
  · subst e
    have e0 : pre W 1 + x = W 5 / 12 + x := by simp [pre]
    have hx6 : x < W 6 / 12 := hx
    rw [e0]
    unfold rlS rlP
    rw [if_neg (by omega), if_pos (by omega), if_neg (by omega), if_pos (by omega)]
    exact ⟨rfl, by rw [show W 5 / 12 + x - W 5 / 12 = x by omega]⟩
  · subst e
    have e0 : pre W 2 + x = W 5 / 12 + W 6 / 12 + x := by simp [pre]
    rw [e0]
    unfold rlS rlP
    rw [if_neg (by omega), if_neg (by omega), if_neg (by omega), if_neg (by omega)]
    exact ⟨rfl, by rw [show W 5 / 12 + W 6 / 12 + x - W 5 / 12 - W 6 / 12 = x by omega]⟩
theorem pre_le (F : pF n b B W G) {s : Nat} (hs : s < 4) : pre W s ≤ 300 := by
  have := F.2.2.2.2.2.2.1.2.2.2
  unfold pre
  repeat' split
  all_goals omega
def eC1 (b : Nat → Fin 256) (B W : Nat → Nat) (r : Nat) (M : gMem) : Prop := M 16 (5 * r) = nI (rlS W r) ∧ M 16 (5 * r + 1) = nI (v4 b (rlP B W r)).1 ∧ M 16 (5 * r + 2) = nI (b (rlP B W r + 4)).1 ∧ M 16 (5 * r + 3) = nI ((v4 b (rlP B W r + 4)).1 / 256) - 1 ∧ M 16 (5 * r + 4) = nI (v4 b (rlP B W r + 8)).1
def eC (b : Nat → Fin 256) (B W : Nat → Nat) (m : Nat) (M : gMem) : Prop := M 9 9 = nI m ∧ ∀ r, r < m → eC1 b B W r M
def sE1 (c j : Nat) : Prop := (c = 9 ∧ j = 9) ∨ c = 16
theorem sE_F {c j : Nat} (h : sE1 c j) : sF c j := by unfold sE1 at h; unfold sF; omega
theorem k_fillR {post : gMem → Prop} {s : Nat} (X : kX n b T E N q B W G M) (hs : s < 3) (hb : rFb M) (h9 : eC b B W (pre W s) M) (H : ∀ M', fr sE1 M M' → rFb M' → eC b B W (pre W (s + 1)) M' → post M') : wp_RE_fillRelocations_9 post (nI s) M := by
  have h8 := X.1.1.1
  have hp := pF_12 X.2.2.1 hs
  have p1 := pre_s (W := W) hs
  have p2 := pre_le X.2.2.1 (show s + 1 < 4 by omega)
  unfold wp_RE_fillRelocations_9
  have e5 : (5 : Int32) + nI s = nI (5 + s) := nI_add 5 s
  have hin : vp_in (nI (5 + s)) 11 := vp_in_nI (by omega) (by omega)
  rw [e5, nI_clamp (by omega), (X.2.2.2.2 (5 + s) (by omega)).1, (X.2.2.2.2 (5 + s) (by omega)).2]
  refine ⟨hin, q_x ⟨hin, q_x ?_⟩⟩
  rw [nI_add]
  refine pk_loop (fun k i M' => wl_RE_fillRelocations_9_30 post k (nI s) (nI (B (5 + s) + W (5 + s))) (nI (B (5 + s) + 12 * i)) M') (fun i M' => fr sE1 M M' ∧ rFb M' ∧ eC b B W (pre W s + i) M') (W (5 + s) / 12) 0 M (by omega) ⟨fr.refl, hb, h9⟩ ?_ ?_
  · rintro k M' ⟨h1, h2, h3⟩
    unfold wl_RE_fillRelocations_9_30
    refine q_le (fun _ => H M' h1 h2 ?_) (fun c => by omega)
    rw [p1]; exact h3
  · rintro k i M' hi ⟨h1, h2, h3⟩ K
    have X1 := kX_F (h1.mono fun c j h => sE_F h) X
    have ra := rl_at (W := W) (B := B) hs hi
    unfold wl_RE_fillRelocations_9_30 wp_RE_symbolNumber
    generalize hP : B (5 + s) + 12 * i = P at ra ⊢
    generalize hr : pre W s + i = r at ra h3 K
    rw [i4, i8]
    refine q_le (fun c => by omega) (fun _ => k_u4 X1.1.1 (q_x ?_))
    rw [sh8 (by omega)]
    refine k_u4 X1.1.1 (k_u1 X1.1.1 (k_u4 X1.1.1 ?_))
    unfold wp_CT_addRelocation_s
    rw [h3.1, lN_i, lN_i]
    refine q_n0 (q_lt (b := 300) (fun _ => q_x (fun M2 e2 => q_x ?_)) (fun c => by omega))
    rw [nI_1] at e2
    rw [show nI r * (5 : Int32) = nI (5 * r) by rw [show (5 : Int32) = nI 5 from rfl, pk_mul, Nat.mul_comm], show nI (5 * r) + (0 : Int32) = nI (5 * r) from nI_add (5 * r) 0, nI_1, i2, show nI (5 * r) + (3 : Int32) = nI (5 * r + 3) from nI_add _ 3, i4]
    rw [nI_clamp (show 5 * r < 2 ^ 31 by omega), nI_clamp (show 5 * r + 1 < 2 ^ 31 by omega), nI_clamp (show 5 * r + 2 < 2 ^ 31 by omega), nI_clamp (show 5 * r + 3 < 2 ^ 31 by omega), nI_clamp (show 5 * r + 4 < 2 ^ 31 by omega)]
    refine ⟨vp_in_nI (by omega) (by omega), fun M5 e5 => ⟨vp_in_nI (by omega) (by omega), fun M6 e6 => ⟨vp_in_nI (by omega) (by omega), fun M7 e7 => ⟨vp_in_nI (by omega) (by omega), fun M8 e8 => ⟨vp_in_nI (by omega) (by omega), fun M9 e9 => q_x ?_⟩⟩⟩⟩⟩
    have f2 : fr sE1 M' M2 := by rw [e2]; exact fr_upd (Or.inl ⟨rfl, rfl⟩)
    have f5 : fr sE1 M2 M5 := by rw [e5]; exact fr_upd (Or.inr rfl)
    have f6 : fr sE1 M5 M6 := by rw [e6]; exact fr_upd (Or.inr rfl)
    have f7 : fr sE1 M6 M7 := by rw [e7]; exact fr_upd (Or.inr rfl)
    have f8 : fr sE1 M7 M8 := by rw [e8]; exact fr_upd (Or.inr rfl)
    have f9 : fr sE1 M8 M9 := by rw [e9]; exact fr_upd (Or.inr rfl)
    rw [i12, ← hP, show B (5 + s) + 12 * i + 12 = B (5 + s) + 12 * (i + 1) by omega]
    rw [show pre W s + (i + 1) = r + 1 by omega] at K
    refine K M9 ⟨h1.trans (f2.trans (f5.trans (f6.trans (f7.trans (f8.trans f9))))), upB e9 (upB e8 (upB e7 (upB e6 (upB e5 (upB e2 h2))))), ?_, fun x hx => ?_⟩
    · rw [u_ne e9, u_ne e8, u_ne e7, u_ne e6, u_ne e5]; exact u_at e2
    · by_cases c : x = r
      · subst c
        unfold eC1
        rw [ra.1, ra.2]
        refine ⟨by rw [u_ne e9, u_ne e8, u_ne e7, u_ne e6]; exact u_at e5, by rw [u_ne e9, u_ne e8, u_ne e7]; exact u_at e6, by rw [u_ne e9, u_ne e8]; exact u_at e7, by rw [u_ne e9]; exact u_at e8, u_at e9⟩
      · have o16 : ∀ j, j < 5 * r → M9 16 j = M' 16 j := fun j hj => by rw [u_ne e9, u_ne e8, u_ne e7, u_ne e6, u_ne e5, u_ne e2]
        obtain ⟨u1, u2, u3, u4, u5⟩ := h3.2 x (by omega)
        exact ⟨by rw [o16 _ (by omega)]; exact u1, by rw [o16 _ (by omega)]; exact u2, by rw [o16 _ (by omega)]; exact u3, by rw [o16 _ (by omega)]; exact u4, by rw [o16 _ (by omega)]; exact u5⟩
theorem k_fl191 {post : gMem → Prop} (X : kX n b T E N q B W G M) (hb : rFb M) (h9 : M 9 9 = nI 0) (H : ∀ M', fr sE1 M M' → rFb M' → eC b B W (pre W 3) M' → post M') : ∃ n9, wl_RE_fill_9_191 post n9 (0 : Int32) M := by
  refine pk_loop (fun k i M' => wl_RE_fill_9_191 post k (nI i) M') (fun i M' => fr sE1 M M' ∧ rFb M' ∧ eC b B W (pre W i) M') 3 0 M (by omega) ⟨fr.refl, hb, h9, fun r hr => absurd hr (by simp [pre])⟩ ?_ ?_
  · rintro k M' ⟨h1, h2, h3⟩
    unfold wl_RE_fill_9_191
    exact q_lt (a := 2) (fun _ => H M' h1 h2 h3) (fun c => by omega)
  · rintro k i M' hi ⟨h1, h2, h3⟩ K
    have X1 := kX_F (h1.mono fun c j h => sE_F h) X
    unfold wl_RE_fill_9_191
    refine q_lt (a := 2) (fun c => by omega) (fun _ => k_fillR X1 hi h2 h3 (fun M2 f2 b2 c2 => q_x ?_))
    rw [nI_1]
    exact K M2 ⟨h1.trans f2, b2, c2⟩
theorem k_fill {post : gMem → Prop} (X : kX n b T E N q B W G M) (h38 : ∀ p, p < 4 → M 38 p = nI (G p)) (hb : rFb M) (hv : ∀ y, 1 ≤ y → y < W 8 / 16 → vn b B W y) (H : ∀ M', fr sF M M' → rFb M' → zC W G 4 M' → yC B W 3 M' → tC b B (W 4 / 2) M' → uC b q E B (W 8 / 16 - 1) M' → eC b B W (pre W 3) M' → post M') : wp_RE_fill_9 post M := by
  unfold wp_RE_fill_9
  refine k_reset hb (fun M1 f1 b1 r4 r7 r9 => ?_)
  have X1 := kX_F f1 X
  refine k_fl6 X1 (fun p hp => by rw [f1 38 p (by unfold sF; omega)]; exact h38 p hp) b1 (fun M2 f2 b2 z2 => ?_)
  have X2 := kX_F (f2.mono fun c j h => sZ_F h) X1
  refine k_fl49 X2 b2 (fun M3 f3 b3 y3 => ?_)
  have X3 := kX_F (f3.mono fun c j h => Or.inr (by omega)) X2
  refine k_fl119 X3 b3 (by rw [f3 9 4 (by omega), f2 9 4 (by unfold sZ; omega)]; exact r4) (fun M4 f4 b4 t4 => ?_)
  have X4 := kX_F (f4.mono fun c j h => (by unfold sT1 at h; unfold sF; omega)) X3
  refine k_fl154 X4 b4 hv (by rw [f4 9 7 (by unfold sT1; omega), f3 9 7 (by omega), f2 9 7 (by unfold sZ; omega)]; exact r7) (fun M5 f5 b5 u5 => ?_)
  have X5 := kX_F (f5.mono fun c j h => sU_F h) X4
  refine k_fl191 X5 b5 (by rw [f5 9 9 (by unfold sU1; omega), f4 9 9 (by unfold sT1; omega), f3 9 9 (by omega), f2 9 9 (by unfold sZ; omega)]; exact r9) (fun M6 f6 b6 v6 => ?_)
  have g2 : fr sF M1 M2 := f2.mono fun c j h => sZ_F h
  have g3 : fr sF M2 M3 := f3.mono fun c j h => Or.inr (by omega)
  have g4 : fr sF M3 M4 := f4.mono fun c j h => (by unfold sT1 at h; unfold sF; omega)
  have g5 : fr sF M4 M5 := f5.mono fun c j h => sU_F h
  have g6 : fr sF M5 M6 := f6.mono fun c j h => sE_F h
  have k18 : ∀ j, M6 18 j = M3 18 j := fun j => by rw [f6 18 j (by unfold sE1; omega), f5 18 j (by unfold sU1; omega), f4 18 j (by unfold sT1; omega)]
  refine H M6 (f1.trans (g2.trans (g3.trans (g4.trans (g5.trans g6))))) b6 (fun s hs => ?_) (fun s hs k hk => ?_) ⟨?_, fun k hk => ?_⟩ ⟨?_, fun x hx => ?_⟩ v6
  · rw [f6 11 s (by unfold sE1; omega), f5 11 s (by unfold sU1; omega), f4 11 s (by unfold sT1; omega), f3 11 s (by omega), f6 12 s (by unfold sE1; omega), f5 12 s (by unfold sU1; omega), f4 12 s (by unfold sT1; omega), f3 12 s (by omega)]
    exact z2 s hs
  · rw [k18, f6 10 _ (by unfold sE1; omega), f5 10 _ (by unfold sU1; omega), f4 10 _ (by unfold sT1; omega)]
    exact y3 s hs k hk
  · rw [f6 9 4 (by unfold sE1; omega), f5 9 4 (by unfold sU1; omega)]; exact t4.1
  · rw [f6 13 k (by unfold sE1; omega), f5 13 k (by unfold sU1; omega)]; exact t4.2 k hk
  · rw [f6 9 7 (by unfold sE1; omega)]; exact u5.1
  · obtain ⟨u1, u2, u3, u4, u55, u6, u7⟩ := u5.2 x hx
    have o : ∀ j, M6 14 j = M5 14 j := fun j => f6 14 j (by unfold sE1; omega)
    exact ⟨by rw [o]; exact u1, by rw [o]; exact u2, by rw [o]; exact u3, by rw [o]; exact u4, by rw [o]; exact u55, by rw [o]; exact u6, fun i hi => by rw [f6 15 _ (by unfold sE1; omega), f6 18 _ (by unfold sE1; omega)]; exact u7 i hi⟩
end
