/-! write: the file's parts, the class -/
section
variable {M D : gMem} {nt ns nr n : Nat} {F : Nat → Int32}
theorem cu_mono (d : dW D nt ns nr) {p q : Nat} (h : p ≤ q) : cu D nt ns nr p ≤ cu D nt ns nr q := by
  induction q with
  | zero => rw [show p = 0 by omega]; exact Nat.le_refl _
  | succ q ih =>
    by_cases c : p = q + 1
    · rw [c]; exact Nat.le_refl _
    · have i := ih (by omega)
      have h1 := pw_b (alP_e d (p := q)).1
      have h2 := up_b (a := cu D nt ns nr q) h1.1
      show _ ≤ (if q = 3 then _ else if thW (W9 D nt ns nr) q = true then _ else _)
      split
      · exact i
      split
      · omega
      · exact i
theorem bg_in (d : dW D nt ns nr) {p : Nat} (hp : p < 11) (h3 : p ≠ 3) (ht : thW (W9 D nt ns nr) p = true) : 52 ≤ bgP D nt ns nr p ∧ bgP D nt ns nr p + lnP D nt ns nr p ≤ cu D nt ns nr (p + 1) ∧ bgP D nt ns nr p + lnP D nt ns nr p ≤ tbP D nt ns nr := by
  have h1 := pw_b (alP_e d (p := p)).1
  have h2 := up_b (a := cu D nt ns nr p) h1.1
  have h4 := (cu_b d p).1
  have e1 : cu D nt ns nr (p + 1) = up (cu D nt ns nr p) (alP D p) + lnP D nt ns nr p := by
    show (if p = 3 then _ else if thW (W9 D nt ns nr) p = true then _ else _) = _
    rw [if_neg h3, if_pos ht]
  have e2 : bgP D nt ns nr p = up (cu D nt ns nr p) (alP D p) := by unfold bgP; rw [if_neg h3]
  have h5 := cu_mono d (show p + 1 ≤ 11 by omega)
  have h6 := (up_b (a := cu D nt ns nr 11) (b := 4) (by omega)).1
  unfold tbP
  omega
theorem tb_in (d : dW D nt ns nr) : 52 ≤ tbP D nt ns nr ∧ tbP D nt ns nr ≤ 60000 := by
  have h1 := cu_b d 11
  have h2 := up_b (a := cu D nt ns nr 11) (b := 4) (by omega)
  unfold tbP
  omega
noncomputable def nE (D : gMem) (nt ns nr : Nat) : Nat := 1 + cnt (thW (W9 D nt ns nr)) 11
noncomputable def szF (D : gMem) (nt ns nr : Nat) : Nat := tbP D nt ns nr + 40 * nE D nt ns nr
theorem nE_b : nE D nt ns nr ≤ 12 := by
  have := cnt_le (g := thW (W9 D nt ns nr)) 11
  unfold nE
  omega
theorem en_in {p : Nat} (hp : p < 11) : enW (W9 D nt ns nr) p < nE D nt ns nr := by
  unfold enW nE
  split
  · next c =>
      have := cnt_lt (g := thW (W9 D nt ns nr)) hp c
      omega
  · omega
/-- what the class has laid down before it writes -/
def kL (D : gMem) (nt ns nr : Nat) (M : gMem) : Prop := eqD D M ∧ (∀ r, r < ns → M 29 r = nI (od D ns r)) ∧ (∀ x, x < ns → M 30 x = nI (tn D ns x + 1)) ∧ M 19 12 = nI (cnt (lc D) ns) ∧ (∀ r, r < ns → M 31 r = nI (plN D ns r)) ∧ (∀ k, k < (SN D ns ns).2 → M 21 k = (SN D ns ns).1 k) ∧ (∀ k, k < (SL (W9 D nt ns nr) 11).2 → M 23 k = (SL (W9 D nt ns nr) 11).1 k) ∧ (∀ p, p < 11 → M 25 p = nI (enW (W9 D nt ns nr) p)) ∧ (∀ p, p < 11 → thW (W9 D nt ns nr) p = true → M 26 p = nI (plL (W9 D nt ns nr) p)) ∧ (∀ p, p < 11 → thW (W9 D nt ns nr) p = true → M 27 p = nI (bgP D nt ns nr p)) ∧ (∀ p, p < 11 → M 28 p = nI (lnP D nt ns nr p)) ∧ M 19 13 = nI (nE D nt ns nr) ∧ M 19 14 = nI (tbP D nt ns nr)
theorem kL_fr {M' : gMem} (f : fr s18 M M') (h : kL D nt ns nr M) : kL D nt ns nr M' := by
  have o : ∀ c j, c ≠ 18 → M' c j = M c j := fun c j hc => f c j hc
  obtain ⟨h1, h2, h3, h4, h5, h6, h7, h8, h9, ha, hb, hc, hd⟩ := h
  exact ⟨fun c j q => by rw [o c j (by omega)]; exact h1 c j q, fun r hr => by rw [o 29 r (by omega)]; exact h2 r hr, fun r hr => by rw [o 30 r (by omega)]; exact h3 r hr, by rw [o 19 12 (by omega)]; exact h4, fun r hr => by rw [o 31 r (by omega)]; exact h5 r hr, fun k hk => by rw [o 21 k (by omega)]; exact h6 k hk, fun k hk => by rw [o 23 k (by omega)]; exact h7 k hk, fun p hp => by rw [o 25 p (by omega)]; exact h8 p hp, fun p hp w => by rw [o 26 p (by omega)]; exact h9 p hp w, fun p hp w => by rw [o 27 p (by omega)]; exact ha p hp w, fun p hp => by rw [o 28 p (by omega)]; exact hb p hp, by rw [o 19 13 (by omega)]; exact hc, by rw [o 19 14 (by omega)]; exact hd⟩
/-! header -/
def fB0 : Nat → Int32 := w4 (w4 (fun _ => 0) 0 1179403647) 4 65793
def flW (c : Nat) : Int32 := if c ≤ 0 then 0 else 1
noncomputable def hdF (D : gMem) (nt ns nr : Nat) : Nat → Int32 := w2 (w2 (w2 (w2 (w4 (w4 (w4 (w2 (w2 fB0 16 1) 18 243) 20 1) 32 (nI (tbP D nt ns nr))) 36 (flW (cnt (shG 0 D) nt))) 40 52) 46 40) 48 (nI (nE D nt ns nr))) 50 (nI (enW (W9 D nt ns nr) 10))
theorem fB0_e : w1 (w1 (w1 (w1 (w1 (w1 (w1 (fun _ => 0) 0 (gTb2.getD 0 0)) 1 (gTb2.getD 1 0)) 2 (gTb2.getD 2 0)) 3 (gTb2.getD 3 0)) 4 1) 5 1) 6 1 = fB0 := by
  funext k
  by_cases c : k < 8
  · rcases (by omega : k = 0 ∨ k = 1 ∨ k = 2 ∨ k = 3 ∨ k = 4 ∨ k = 5 ∨ k = 6 ∨ k = 7) with e | e | e | e | e | e | e | e
    all_goals (subst e; decide)
  · unfold fB0 w4 w2 w1
    repeat (rw [if_neg (by omega)])
theorem sh_in (d : dW D nt ns nr) (no : ¬ bySt D nt) {k : Nat} (hk : k < nt) : ∃ v : Nat, D 45 k = nI v ∧ D 5 k = nI v ∧ v < lnS D 0 ∧ v ≤ 2046 := by
  have h1 := d.2.2.1.2.2.2.1 k hk
  obtain ⟨v, hv, e⟩ := ti_nat h1.2.1
  have l0 := lnS_e d (show 0 < 4 by omega)
  refine ⟨v, e, h1.1.trans e, ?_, ?_⟩
  · have : D 45 k < D 43 0 := Classical.byContradiction fun w => no ⟨k, hk, w⟩
    rw [e, l0.1, nI_ltI hv (by omega)] at this
    exact this
  · have := h1.2.2; rw [e, ti_nI hv] at this; omega
theorem k_short {post : Int32 → gMem → Prop} (E : eqD D M) (d : dW D nt ns nr) (no : ¬ bySt D nt) (H : post (nI (cnt (shG 0 D) nt)) M) : wp_CT_shortStarts_m post M := by
  have hnt := d.2.2.1.1
  have e14 : M 1 4 = nI nt := (E 1 4 (by omega)).trans d.2.2.1.2.1
  have l0 := lnS_e d (show 0 < 4 by omega)
  have go : ∀ dd k, k + dd = nt → wl_CT_shortStarts_m_4 post (dd + 1) (nI (cnt (shG 0 D) k)) (nI k) M := by
    intro dd
    induction dd with
    | zero =>
      intro k hk
      have ek : k = nt := by omega
      subst ek
      unfold wl_CT_shortStarts_m_4
      rw [e14]
      exact q_le (fun _ => H) (fun c => by omega)
    | succ dd ih =>
      intro k hk
      have hs := ih (k + 1) (by omega)
      obtain ⟨v, v1, v2, v3, v4⟩ := sh_in d no (show k < nt by omega)
      unfold wl_CT_shortStarts_m_4 wp_CT_startOf_m wp_CT_byteOf_m
      rw [e14]
      refine q_le (fun c => by omega) (fun _ => q_n0 (q_lt (fun _ => ⟨vp_in_nI (by omega) (by omega), ?_⟩) (fun c => by omega)))
      rw [nI_clamp (by omega), E 5 k (by omega), v2]
      have hb := d.2.1 0 v (by omega) (by rw [l0.1, ti_nI (by omega)]; omega)
      rw [show 2048 * 0 + v = v by omega] at hb
      refine q_f (by decide) (q_f (by decide) (q_n0 ⟨by unfold vp_in; decide, ?_⟩))
      rw [cl_0, E 3 0 (by omega), l0.2.2.2, show (0 : Int32) * (2048 : Int32) + nI v = nI (0 + v) from nI_add 0 v, Nat.zero_add, nI_clamp (by omega), E 2 v (by omega), hb]
      refine q_lt (fun _ => ⟨vp_in_nI (by omega) (by omega), w_sh ?_⟩) (fun c => by omega)
      have eg : shG 0 D k = !decide ((D 42 v &&& (3 : Int32)) = 3) := by
        unfold shG
        rw [show 1024 * 0 + k = k by omega, v1, ti_nI (by omega), show 6144 * 0 + (v : Int).toNat = v by omega]
      rw [show cnt (shG 0 D) (k + 1) = cnt (shG 0 D) k + if shG 0 D k = true then 1 else 0 from rfl] at hs
      rw [← eg]
      refine q_b (fun z => q_x ?_) (fun z => q_x (q_x ?_))
      · rw [z, if_neg (by decide)] at hs
        rw [nI_1]; exact hs
      · rw [z, if_pos rfl] at hs
        rw [nI_1, nI_1]; exact hs
  exact ⟨nt + 1, go nt 0 (by omega)⟩
theorem k_head {post : gMem → Prop} (L : kL D nt ns nr M) (d : dW D nt ns nr) (no : ¬ bySt D nt) (hn : n = szF D nt ns nr) (C : cW n M (fun _ => 0)) (H : ∀ M', fr s18 M M' → cW n M' (hdF D nt ns nr) → post M') : wp_WR_putHeader post M := by
  have hb := tb_in d
  have hE := nE_b (D := D) (nt := nt) (ns := ns) (nr := nr)
  have hn2 : 52 ≤ n := by rw [hn]; unfold szF; omega
  unfold wp_WR_putHeader
  refine ⟨5, ?_⟩
  unfold wl_WR_putHeader_2
  refine q_f (by decide) ⟨by unfold vp_in; decide, c_p1 (p := 0) C (fun Ma fa Ca => q_x ?_)⟩
  unfold wl_WR_putHeader_2
  refine q_f (by decide) ⟨by unfold vp_in; decide, c_p1 (p := 1) Ca (fun Mb fb Cb => q_x ?_)⟩
  unfold wl_WR_putHeader_2
  refine q_f (by decide) ⟨by unfold vp_in; decide, c_p1 (p := 2) Cb (fun Mc fc Cc => q_x ?_)⟩
  unfold wl_WR_putHeader_2
  refine q_f (by decide) ⟨by unfold vp_in; decide, c_p1 (p := 3) Cc (fun Md fd Cd => q_x ?_)⟩
  unfold wl_WR_putHeader_2
  refine q_t (by decide) ⟨4, ?_⟩
  unfold wl_WR_putHeader_31
  refine q_f (by decide) (c_p1 (p := 4) Cd (fun Me fe Ce => q_x ?_))
  unfold wl_WR_putHeader_31
  refine q_f (by decide) (c_p1 (p := 5) Ce (fun Mf ff Cf => q_x ?_))
  unfold wl_WR_putHeader_31
  refine q_f (by decide) (c_p1 (p := 6) Cf (fun Mg fg Cg => q_x ?_))
  unfold wl_WR_putHeader_31
  have Cg' : cW n Mg fB0 := by rw [← fB0_e]; exact Cg
  have fG : fr s18 M Mg := fa.trans (fb.trans (fc.trans (fd.trans (fe.trans (ff.trans fg)))))
  refine q_t (by decide) (c_p2 (p := 16) Cg' (fun M1 f1 C1 => c_p2 (p := 18) C1 (fun M2 f2 C2 => c_p4 (p := 20) C2 (fun M3 f3 C3 => ?_))))
  have L3 := kL_fr (fG.trans (f1.trans (f2.trans f3))) L
  rw [L3.2.2.2.2.2.2.2.2.2.2.2.2]
  refine c_p4 (p := 32) C3 (fun M4 f4 C4 => ?_)
  have L4 := kL_fr f4 L3
  refine k_short L4.1 d no ?_
  have hc := cnt_le (g := shG 0 D) nt
  have hnt := d.2.2.1.1
  have fin : wj_WR_putHeader_118 post (flW (cnt (shG 0 D) nt)) (36 : Int32) M4 := by
    unfold wj_WR_putHeader_118
    refine c_p4 (p := 36) C4 (fun M5 f5 C5 => c_p2 (p := 40) C5 (fun M6 f6 C6 => c_p2 (p := 46) C6 (fun M7 f7 C7 => ?_)))
    have L7 := kL_fr (f5.trans (f6.trans f7)) L4
    rw [L7.2.2.2.2.2.2.2.2.2.2.2.1]
    refine c_p2 (p := 48) C7 (fun M8 f8 C8 => ⟨vp_in_nI (n := 10) (by omega) (by omega), ?_⟩)
    have L8 := kL_fr f8 L7
    rw [show ((10 : Int32)).toNatClampNeg = 10 from rfl, L8.2.2.2.2.2.2.2.1 10 (by omega)]
    exact c_p2 (p := 50) C8 (fun M9 f9 C9 => H M9 (fG.trans (f1.trans (f2.trans (f3.trans (f4.trans (f5.trans (f6.trans (f7.trans (f8.trans f9))))))))) C9)
  refine q_le (b := 0) (fun c => ?_) (fun c => ?_)
  · unfold flW at fin; rw [if_pos c] at fin; exact fin
  · unfold flW at fin; rw [if_neg (by omega)] at fin; exact fin
/-! bytes of the sections, starts -/
noncomputable def txF (D : gMem) (nt ns nr : Nat) (F : Nat → Int32) : Nat → Nat → Int32
  | 0 => F
  | s + 1 => cp (txF D nt ns nr F s) (bgP D nt ns nr s) (lnS D s) (fun i => D 42 (2048 * s + i))
noncomputable def stF (D : gMem) (nt ns nr : Nat) (F : Nat → Int32) : Nat → Nat → Int32
  | 0 => F
  | k + 1 => w2 (stF D nt ns nr F k) (bgP D nt ns nr 4 + 2 * k) (D 45 k)
theorem lnP_s {s : Nat} (hs : s < 4) : lnP D nt ns nr s = lnS D s := by unfold lnP W9; rw [if_neg (by omega), if_pos hs]
theorem lnP_4 : lnP D nt ns nr 4 = 2 * nt := by unfold lnP W9; rw [if_neg (by omega), if_neg (by omega), if_pos rfl]
theorem th_nt (h : 0 < nt) : thW (W9 D nt ns nr) 4 = true := decide_eq_true (by
  right; right
  unfold W9; rw [if_neg (by omega), if_pos rfl]; omega)
theorem k_text {post : gMem → Prop} (L : kL D nt ns nr M) (d : dW D nt ns nr) (hn : n = szF D nt ns nr) (C : cW n M F) (H : ∀ M', fr s18 M M' → cW n M' (txF D nt ns nr F 3) → ∃ n9 : Nat, wl_WR_putParts_46 post n9 (0 : Int32) M') : wp_WR_putParts post M := by
  have hE : tbP D nt ns nr ≤ n := by rw [hn]; unfold szF; omega
  have h8 := C.1
  unfold wp_WR_putParts
  refine pk_loop (fun k s M' => wl_WR_putParts_2 post k (nI s) M') (fun s M' => fr s18 M M' ∧ cW n M' (txF D nt ns nr F s)) 3 0 M (by omega) ⟨fr.refl, C⟩ ?_ ?_
  · rintro k M' ⟨h1, h2⟩
    unfold wl_WR_putParts_2
    exact q_lt (a := 2) (fun _ => H M' h1 h2) (fun c => by omega)
  · rintro k s M' hs ⟨h1, h2⟩ K
    have L1 := kL_fr h1 L
    have ls := lnS_e d (show s < 4 by omega)
    have hb := bg_in d (show s < 11 by omega) (by omega) (th_4 (by omega))
    rw [lnP_s (by omega)] at hb
    have l2 := ls.2.2.1 hs
    unfold wl_WR_putParts_2
    rw [nI_1, nI_clamp (by omega), L1.2.2.2.2.2.2.2.2.2.1 s (by omega) (th_4 (by omega)), L1.2.2.2.2.2.2.2.2.2.2.1 s (by omega), lnP_s (by omega), show nI s * (2048 : Int32) = nI (s * 2048) from pk_mul s 2048]
    refine q_lt (a := 2) (fun c => by omega) (fun _ => ⟨vp_in_nI (by omega) (by omega), vp_in_nI (by omega) (by omega), ?_⟩)
    unfold wp_FB_copyIn_2
    have e1 : txF D nt ns nr F (s + 1) = cp (txF D nt ns nr F s) (bgP D nt ns nr s) (lnS D s) (fun i => D 42 (2048 * s + i)) := rfl
    have m1 : bgP D nt ns nr s + lnS D s ≤ 8192 := by omega
    have m2 : s * 2048 + lnS D s ≤ 6144 := by omega
    refine q_le (b := 0) (fun c => q_x (K M' ⟨h1, ?_⟩)) (fun c => ?_)
    · rw [e1, show lnS D s = 0 by omega, cp_0]; exact h2
    · rw [h2.2.1, show (6144 : Int32) - nI (lnS D s) = nI (6144 - lnS D s) from pk_sub (a := 6144) (by omega), pk_sub (by omega)]
      refine q_n0 (q_lt (fun c2 => by omega) (fun _ => q_n0 (q_lt (fun c3 => by omega) (fun _ => ⟨nI_pos (by omega), nI_pos (by omega), nI_pos (by omega), ?_⟩))))
      rw [nI_clamp (show s * 2048 < 2 ^ 31 by omega), nI_clamp (show lnS D s < 2 ^ 31 by omega), nI_clamp (show bgP D nt ns nr s < 2 ^ 31 by omega)]
      have hfit : ∀ j, fits .byte (.int (M' 2 j)) = true := h2.2.2.1 2 (by decide)
      refine ⟨m2, m1, fun j _ => hfit _, fun M2 e2 => q_x ?_⟩
      obtain ⟨a2, f2⟩ := cW_cp (w := fun i => D 42 (2048 * s + i)) h2 (by omega) hfit e2 (fun i hi => by
        rw [L1.1 2 _ (by omega), show s * 2048 + i = 2048 * s + i by omega]
        exact d.2.1 s i hs (by rw [ls.1, ti_nI (by omega)]; omega))
      exact K M2 ⟨h1.trans f2, by rw [e1]; exact a2⟩
theorem k_starts2 {post : gMem → Prop} (L : kL D nt ns nr M) (d : dW D nt ns nr) (hn : n = szF D nt ns nr) (C : cW n M F) (H : ∀ M', fr s18 M M' → cW n M' (stF D nt ns nr F nt) → ∃ n9 : Nat, wl_WR_putParts_90 post n9 (0 : Int32) M') : ∃ n9 : Nat, wl_WR_putParts_46 post n9 (0 : Int32) M := by
  have hE : tbP D nt ns nr ≤ n := by rw [hn]; unfold szF; omega
  have h8 := C.1
  have hnt := d.2.2.1.1
  refine pk_loop (fun k s M' => wl_WR_putParts_46 post k (nI s) M') (fun s M' => fr s18 M M' ∧ cW n M' (stF D nt ns nr F s)) nt 0 M (by omega) ⟨fr.refl, C⟩ ?_ ?_
  · rintro k M' ⟨h1, h2⟩
    have L1 := kL_fr h1 L
    unfold wl_WR_putParts_46
    rw [L1.1 1 4 (by omega), d.2.2.1.2.1]
    exact q_le (fun _ => H M' h1 h2) (fun c => by omega)
  · rintro k s M' hs ⟨h1, h2⟩ K
    have L1 := kL_fr h1 L
    have hb := bg_in d (show 4 < 11 by omega) (by omega) (th_nt (show 0 < nt by omega))
    rw [lnP_4] at hb
    have e14 : M' 1 4 = nI nt := (L1.1 1 4 (by omega)).trans d.2.2.1.2.1
    unfold wl_WR_putParts_46 wp_CT_startOf_m
    rw [e14, nI_1, cl_4, nI_clamp (by omega), L1.2.2.2.2.2.2.2.2.2.1 4 (by omega) (th_nt (by omega)), L1.1 5 s (by omega), (d.2.2.1.2.2.2.1 s hs).1, show (2 : Int32) * nI s = nI (2 * s) from pk_mul 2 s, nI_add]
    exact q_le (fun c => by omega) (fun _ => ⟨in_4, q_n0 (q_lt (fun _ => ⟨vp_in_nI (by omega) (by omega), c_p2 h2 (fun M2 f2 C2 => q_x (K M2 ⟨h1.trans f2, C2⟩))⟩) (fun c => by omega))⟩)
end
