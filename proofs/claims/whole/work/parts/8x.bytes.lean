/-! write: bytes of the file -/
section
variable {M : gMem} {n : Nat} {F : Nat → Int32}
def w1 (F : Nat → Int32) (p : Nat) (v : Int32) : Nat → Int32 := fun k => if k = p then v &&& 255 else F k
def w2 (F : Nat → Int32) (p : Nat) (v : Int32) : Nat → Int32 := w1 (w1 F p v) (p + 1) (v >>> ((8 : Int32) &&& 31))
def w4 (F : Nat → Int32) (p : Nat) (v : Int32) : Nat → Int32 := w2 (w2 F p v) (p + 2) (v >>> ((16 : Int32) &&& 31))
theorem bs_s {v : Int32} {a : UInt32} {c : Int32} {s : Nat} (hs : s ≤ 24) (ha : a.toBitVec % 32 = BitVec.ofNat 32 s) (hc : c.toBitVec.smod 32 = BitVec.ofNat 32 s) : (v.toUInt32 >>> a).toInt32 &&& 255 = (v >>> c) &&& 255 := by
  have hsn : (BitVec.ofNat 32 s).toNat = s := by rw [BitVec.toNat_ofNat]; exact Nat.mod_eq_of_lt (by omega)
  apply Int32.toBitVec_inj.mp
  rw [Int32.toBitVec_and, Int32.toBitVec_and, Int32.toBitVec_shiftRight, hc]
  rw [show ((v.toUInt32 >>> a).toInt32).toBitVec = (v.toUInt32 >>> a).toBitVec from rfl, UInt32.toBitVec_shiftRight, ha, show v.toUInt32.toBitVec = v.toBitVec from rfl]
  rw [BitVec.ushiftRight_eq', BitVec.sshiftRight_eq', hsn]
  apply BitVec.eq_of_getLsbD_eq
  intro i hi
  have hm : ∀ i < 32, 8 ≤ i → (255 : Int32).toBitVec.getLsbD i = false := by decide
  rw [BitVec.getLsbD_and, BitVec.getLsbD_and]
  rcases Nat.lt_or_ge i 8 with z | z
  · rw [BitVec.getLsbD_ushiftRight, BitVec.getLsbD_sshiftRight, if_pos (by omega)]
    simp [show ¬ 32 ≤ i by omega]
  · rw [hm i hi z]; simp
theorem bs_8 {v : Int32} : (v.toUInt32 >>> ((8 : Int32).toUInt32 &&& Int32.toUInt32 31)).toInt32 &&& 255 = (v >>> ((8 : Int32) &&& 31)) &&& 255 := bs_s (s := 8) (by omega) (by decide) (by decide)
theorem bs_16 {v : Int32} : (v.toUInt32 >>> ((16 : Int32).toUInt32 &&& Int32.toUInt32 31)).toInt32 &&& 255 = (v >>> ((16 : Int32) &&& 31)) &&& 255 := bs_s (s := 16) (by omega) (by decide) (by decide)
theorem bs_24 {v : Int32} : (v.toUInt32 >>> ((24 : Int32).toUInt32 &&& Int32.toUInt32 31)).toInt32 &&& 255 = ((v >>> ((16 : Int32) &&& 31)) >>> ((8 : Int32) &&& 31)) &&& 255 := by
  rw [bs_s (v := v) (a := (24 : Int32).toUInt32 &&& Int32.toUInt32 31) (c := 24) (s := 24) (by omega) (by decide) (by decide)]
  apply Int32.toBitVec_inj.mp
  rw [Int32.toBitVec_and, Int32.toBitVec_and, Int32.toBitVec_shiftRight, Int32.toBitVec_shiftRight, Int32.toBitVec_shiftRight]
  rw [show (24 : Int32).toBitVec.smod 32 = 24#32 by decide, show ((8 : Int32) &&& 31).toBitVec.smod 32 = 8#32 by decide, show ((16 : Int32) &&& 31).toBitVec.smod 32 = 16#32 by decide]
  rw [BitVec.sshiftRight_eq', BitVec.sshiftRight_eq', BitVec.sshiftRight_eq', show (24#32).toNat = 24 by decide, show (8#32).toNat = 8 by decide, show (16#32).toNat = 16 by decide]
  apply BitVec.eq_of_getLsbD_eq
  intro i hi
  have hm : ∀ i < 32, 8 ≤ i → (255 : Int32).toBitVec.getLsbD i = false := by decide
  rw [BitVec.getLsbD_and, BitVec.getLsbD_and]
  rcases Nat.lt_or_ge i 8 with z | z
  · rw [BitVec.getLsbD_sshiftRight, BitVec.getLsbD_sshiftRight, BitVec.getLsbD_sshiftRight, if_pos (by omega), if_pos (by omega), if_pos (by omega)]
    simp [show ¬ 32 ≤ i by omega, show ¬ 32 ≤ 8 + i by omega, show 16 + (8 + i) = 24 + i by omega]
  · rw [hm i hi z]; simp
theorem nb_a {x : Int32} : vp_nar .byte (x.toInt8.toInt32) &&& 255 = x &&& 255 := by
  rw [nar_b, bp_b, bp_b]
theorem nb_f {x : Int32} : fits .byte (.int (vp_nar .byte x)) = true := by rw [nar_b]; exact fit_b
/-- the class's file -/
def cW (n : Nat) (M : gMem) (F : Nat → Int32) : Prop := n ≤ 8192 ∧ M 17 1 = nI n ∧ rFb M ∧ ∀ k, k < n → M 18 k &&& 255 = F k
def s18 (c _j : Nat) : Prop := c = 18
theorem cW_1 {M1 : gMem} {p : Nat} {x v : Int32} (h : cW n M F) (e : M1 = va_up M 18 (upd (M 18) p (vp_nar .byte (x.toInt8.toInt32)))) (hx : x &&& 255 = v &&& 255) : cW n M1 (w1 F p v) ∧ fr s18 M M1 := by
  obtain ⟨h1, h2, h3, h4⟩ := h
  refine ⟨⟨h1, by rw [u_ne e]; exact h2, by rw [e]; exact rFb_upd h3 nb_f, fun k hk => ?_⟩, by rw [e]; exact fr_upd rfl⟩
  unfold w1
  by_cases c : k = p
  · subst c; rw [if_pos rfl, u_at e, nb_a]; exact hx
  · rw [if_neg c, u_ne e]; exact h4 k hk
theorem c_p1 {post : gMem → Prop} {p : Nat} {v : Int32} (h : cW n M F) (H : ∀ M', fr s18 M M' → cW n M' (w1 F p v) → post M') (hp : p < n := by omega) : wp_FB_put1 post (nI p) v M := by
  have h8 := h.1
  unfold wp_FB_put1
  rw [h.2.1, nI_clamp (by omega)]
  refine q_n0 (q_le (fun c => by omega) (fun _ => ⟨vp_in_nI (by omega) (by omega), fun M1 e1 => ?_⟩))
  obtain ⟨a1, b1⟩ := cW_1 h e1 rfl
  exact H M1 b1 a1
theorem c_p2 {post : gMem → Prop} {p : Nat} {v : Int32} (h : cW n M F) (H : ∀ M', fr s18 M M' → cW n M' (w2 F p v) → post M') (hp : p + 1 < n := by omega) : wp_FB_put2 post (nI p) v M := by
  have h8 := h.1
  unfold wp_FB_put2
  rw [h.2.1, nI_1, show nI n - (1 : Int32) = nI (n - 1) from pk_sub (b := 1) (by omega), nI_clamp (by omega), nI_clamp (by omega)]
  refine q_n0 (q_le (fun c => by omega) (fun _ => ⟨vp_in_nI (by omega) (by omega), fun M1 e1 => ⟨vp_in_nI (by omega) (by omega), fun M2 e2 => ?_⟩⟩))
  obtain ⟨a1, b1⟩ := cW_1 h e1 rfl
  obtain ⟨a2, b2⟩ := cW_1 a1 e2 bs_8
  exact H M2 (b1.trans b2) a2
theorem c_p4 {post : gMem → Prop} {p : Nat} {v : Int32} (h : cW n M F) (H : ∀ M', fr s18 M M' → cW n M' (w4 F p v) → post M') (hp : p + 3 < n := by omega) : wp_FB_put4 post (nI p) v M := by
  have h8 := h.1
  unfold wp_FB_put4
  rw [h.2.1, nI_1, show nI n - (3 : Int32) = nI (n - 3) from pk_sub (b := 3) (by omega), i2, show nI p + (3 : Int32) = nI (p + 3) from nI_add p 3, nI_clamp (by omega), nI_clamp (by omega), nI_clamp (by omega), nI_clamp (by omega)]
  refine q_n0 (q_le (fun c => by omega) (fun _ => ⟨vp_in_nI (by omega) (by omega), fun M1 e1 => ⟨vp_in_nI (by omega) (by omega), fun M2 e2 => ⟨vp_in_nI (by omega) (by omega), fun M3 e3 => ⟨vp_in_nI (by omega) (by omega), fun M4 e4 => ?_⟩⟩⟩⟩))
  obtain ⟨a1, b1⟩ := cW_1 h e1 rfl
  obtain ⟨a2, b2⟩ := cW_1 a1 e2 bs_8
  obtain ⟨a3, b3⟩ := cW_1 a2 e3 bs_16
  obtain ⟨a4, b4⟩ := cW_1 a3 e4 bs_24
  exact H M4 (b1.trans (b2.trans (b3.trans b4))) a4
/-- the reference's file -/
def mW (n : Nat) (M : gMem) (F : Nat → Int32) : Prop := n ≤ 8192 ∧ ∀ k, k < n → M 62 k = F k
def sf2 (c _j : Nat) : Prop := c = 62
theorem m_p1 {post : gMem → Prop} {p : Nat} {v : Int32} (h : mW n M F) (H : ∀ M', fr sf2 M M' → mW n M' (w1 F p v) → post M') (hp : p < n := by omega) : wp_MO_write1 post (nI p) v M := by
  have h8 := h.1
  unfold wp_MO_write1
  rw [nI_clamp (by omega)]
  refine ⟨vp_in_nI (by omega) (by omega), fun M1 e1 => H M1 (by rw [e1]; exact fr_upd rfl) ⟨h8, fun k hk => ?_⟩⟩
  unfold w1
  by_cases c : k = p
  · subst c; rw [if_pos rfl]; exact u_at e1
  · rw [if_neg c, u_ne e1]; exact h.2 k hk
theorem m_p2 {post : gMem → Prop} {p : Nat} {v : Int32} (h : mW n M F) (H : ∀ M', fr sf2 M M' → mW n M' (w2 F p v) → post M') (hp : p + 1 < n := by omega) : wp_MO_write2 post (nI p) v M := by
  unfold wp_MO_write2
  refine m_p1 h (fun M1 f1 a1 => ?_)
  rw [nI_1]
  exact m_p1 a1 (fun M2 f2 a2 => H M2 (f1.trans f2) a2)
theorem m_p4 {post : gMem → Prop} {p : Nat} {v : Int32} (h : mW n M F) (H : ∀ M', fr sf2 M M' → mW n M' (w4 F p v) → post M') (hp : p + 3 < n := by omega) : wp_MO_write4 post (nI p) v M := by
  unfold wp_MO_write4
  refine m_p2 h (fun M1 f1 a1 => ?_)
  rw [i2]
  exact m_p2 a1 (fun M2 f2 a2 => H M2 (f1.trans f2) a2)
/-- a stretch of bytes -/
def cp (F : Nat → Int32) (p m : Nat) (w : Nat → Int32) : Nat → Int32 := fun k => if p ≤ k ∧ k < p + m then w (k - p) else F k
theorem cp_comm {p q m l : Nat} {w v : Nat → Int32} (h : p + m ≤ q) : cp (cp F p m w) q l v = cp (cp F q l v) p m w := by
  funext k
  unfold cp
  by_cases c : p ≤ k ∧ k < p + m
  · rw [if_neg (by omega), if_pos c, if_pos c]
  · rw [if_neg c, if_neg c]
theorem cp_0 {p : Nat} {w : Nat → Int32} : cp F p 0 w = F := by
  funext k
  unfold cp
  rw [if_neg (by omega)]
theorem cW_cp {M1 : gMem} {c sp dp m : Nat} {w : Nat → Int32} (h : cW n M F) (hc : c ≠ 18) (hcf : ∀ j, fits .byte (.int (M c j)) = true) (e : M1 = va_up M 18 (va_cpy (M c) (M 18) sp dp m)) (hw : ∀ i, i < m → M c (sp + i) &&& 255 = w i) : cW n M1 (cp F dp m w) ∧ fr s18 M M1 := by
  obtain ⟨h1, h2, h3, h4⟩ := h
  refine ⟨⟨h1, by rw [y_ne e]; exact h2, by rw [e]; exact rFb_cpy h3 (fun j _ => hcf _), fun k hk => ?_⟩, by rw [e]; exact fr_cpy (fun _ _ _ => rfl)⟩
  unfold cp
  by_cases c1 : dp ≤ k ∧ k < dp + m
  · rw [if_pos c1]
    have := y_at e (k := k - dp) (by omega)
    rw [show dp + (k - dp) = k by omega] at this
    rw [this]; exact hw _ (by omega)
  · rw [if_neg c1, y_ne e]; exact h4 k hk
/-- a symbol's row -/
def rowF (D : gMem) (F : Nat → Int32) (p x : Nat) (pl wh : Int32) : Nat → Int32 := w2 (w1 (w4 (w4 (w4 F p pl) (p + 4) (D 48 x)) (p + 8) (D 49 x)) (p + 12) ((16 : Int32) * D 50 x + D 51 x)) (p + 14) wh
theorem rowF_e {D : gMem} {p x : Nat} {pl wh : Int32} (k : Nat) : rowF D F p x pl wh k = if p ≤ k ∧ k < p + 16 ∧ k ≠ p + 13 then rowF D (fun _ => 0) 0 x pl wh (k - p) else F k := by
  by_cases c : p ≤ k ∧ k < p + 16 ∧ k ≠ p + 13
  · rw [if_pos c]
    obtain ⟨j, hj⟩ : ∃ j, k = p + j := ⟨k - p, by omega⟩
    subst hj
    rw [show p + j - p = j by omega]
    have hj : j < 16 ∧ j ≠ 13 := by omega
    unfold rowF w4 w2 w1
    rcases (by omega : j = 0 ∨ j = 1 ∨ j = 2 ∨ j = 3 ∨ j = 4 ∨ j = 5 ∨ j = 6 ∨ j = 7 ∨ j = 8 ∨ j = 9 ∨ j = 10 ∨ j = 11 ∨ j = 12 ∨ j = 14 ∨ j = 15) with e | e | e | e | e | e | e | e | e | e | e | e | e | e | e
    all_goals
      subst e
      simp [Nat.add_assoc]
  · rw [if_neg c]
    unfold rowF w4 w2 w1
    simp only [Nat.add_assoc]
    repeat (rw [if_neg (by omega)])
end
