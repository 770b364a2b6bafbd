/-! write: string tables and entries, the class -/
section
variable {M D : gMem} {nt ns nr n : Nat} {F : Nat → Int32}
theorem sts_by {u : Nat → Bool} {wf : Nat → Nat → Int32} {ml : Nat → Nat} : ∀ {r}, (∀ k, k < r → ∀ i, i < ml k → wf k i &&& 255 = wf k i) → ∀ k, (sts u wf ml r).1 k &&& 255 = (sts u wf ml r).1 k := by
  intro r
  induction r with
  | zero => intro _ k; show (0 : Int32) &&& 255 = 0; decide
  | succ r ih =>
    intro h k
    have i := ih (fun q hq => h q (by omega))
    unfold sts
    split
    · unfold stp
      split
      · exact i k
      · show app _ _ _ _ k &&& 255 = app _ _ _ _ k
        unfold app
        split
        · exact h r (by omega) _ (by omega)
        split
        · decide
        · exact i k
    · exact i k
theorem nI_by {v : Nat} (h : v < 256) : nI v &&& 255 = nI v := by
  rw [pk_andN (by omega) 8 (by decide)]
  congr 1
  omega
theorem SN_by (d : dW D nt ns nr) (k : Nat) : (SN D ns ns).1 k &&& 255 = (SN D ns ns).1 k := by
  refine sts_by (fun r hr i hi => ?_) k
  obtain ⟨m, m1, m2, m3, m4, m5⟩ := nm_in d.2.2.2.1 (od_s (M := D) hr).1
  have hi' : i < m := by
    have e : mlN D ns r = m := m4
    rw [e] at hi; exact hi
  have h2 := (m5 i hi').2
  show D 53 (16 * od D ns r + i) &&& 255 = D 53 (16 * od D ns r + i)
  obtain ⟨v, hv, e⟩ := ti_nat (x := D 53 (16 * od D ns r + i)) (by omega)
  rw [e, ti_nI hv] at h2
  rw [e]
  exact nI_by (by omega)
theorem SL_by {W : Nat → Nat} (k : Nat) : (SL W 11).1 k &&& 255 = (SL W 11).1 k := by
  refine sts_by (fun r hr i hi => ?_) k
  have hl := tc_l r hr
  exact nI_by (by have := tc_n r hr i (by omega) (by omega); omega)
noncomputable def s9F (D : gMem) (nt ns nr : Nat) (F : Nat → Int32) : Nat → Int32 := cp F (bgP D nt ns nr 9) (SN D ns ns).2 (SN D ns ns).1
noncomputable def s10F (D : gMem) (nt ns nr : Nat) (F : Nat → Int32) : Nat → Int32 := cp F (bgP D nt ns nr 10) (SL (W9 D nt ns nr) 11).2 (SL (W9 D nt ns nr) 11).1
theorem lnP_9 : lnP D nt ns nr 9 = (SN D ns ns).2 := by unfold lnP W9; rw [if_neg (by omega), if_neg (by omega), if_neg (by omega), if_neg (by omega), if_neg (by omega), if_pos rfl]
theorem lnP_10 : lnP D nt ns nr 10 = (SL (W9 D nt ns nr) 11).2 := by unfold lnP; rw [if_pos rfl]
theorem k_strs {post : gMem → Prop} (L : kL D nt ns nr M) (d : dW D nt ns nr) (hn : n = szF D nt ns nr) (C : cW n M F) (H : ∀ M', fr s18 M M' → cW n M' (s10F D nt ns nr (s9F D nt ns nr F)) → post M') : vp_in (9 : Int32) 11 ∧ vp_in (9 : Int32) 11 ∧ wp_FB_copyIn_21 (fun M2 => vp_in (10 : Int32) 11 ∧ vp_in (10 : Int32) 11 ∧ wp_FB_copyIn_23 (fun M4 => post M4) (0 : Int32) (M2 27 ((10 : Int32)).toNatClampNeg) (M2 28 ((10 : Int32)).toNatClampNeg) M2) (0 : Int32) (M 27 ((9 : Int32)).toNatClampNeg) (M 28 ((9 : Int32)).toNatClampNeg) M := by
  have hE : tbP D nt ns nr ≤ n := by rw [hn]; unfold szF; omega
  have h8 := C.1
  have hns := d.2.2.2.1.1
  have b9 := bg_in d (show 9 < 11 by omega) (by omega) (th_8 (by omega))
  have b10 := bg_in d (show 10 < 11 by omega) (by omega) (th_8 (by omega))
  rw [lnP_9] at b9
  rw [lnP_10] at b10
  have l9 := SN_L d.2.2.2.1 (Nat.le_refl ns)
  have l10 := SL_L (W := W9 D nt ns nr) (Nat.le_refl 11)
  have i10 : vp_in (10 : Int32) 11 := vp_in_nI (n := 10) (by omega) (by omega)
  refine ⟨in_9, in_9, ?_⟩
  rw [cl_9, L.2.2.2.2.2.2.2.2.2.1 9 (by omega) (th_8 (by omega)), L.2.2.2.2.2.2.2.2.2.2.1 9 (by omega), lnP_9]
  unfold wp_FB_copyIn_21
  rw [C.2.1, show (1701 : Int32) - nI (SN D ns ns).2 = nI (1701 - (SN D ns ns).2) from pk_sub (a := 1701) (by omega), pk_sub (by omega)]
  have m1 : bgP D nt ns nr 9 + (SN D ns ns).2 ≤ 8192 := by omega
  have m2 : 0 + (SN D ns ns).2 ≤ 1701 := by omega
  have m3 : bgP D nt ns nr 10 + (SL (W9 D nt ns nr) 11).2 ≤ 8192 := by omega
  have m4 : 0 + (SL (W9 D nt ns nr) 11).2 ≤ 1701 := by omega
  refine q_le (b := 0) (fun c => by omega) (fun _ => q_f (by decide) (q_lt (b := 0) (fun c => by omega) (fun _ => q_n0 (q_lt (fun c => by omega) (fun _ => ⟨by decide, nI_pos (by omega), nI_pos (by omega), ?_⟩)))))
  rw [cl_0, nI_clamp (show (SN D ns ns).2 < 2 ^ 31 by omega), nI_clamp (show bgP D nt ns nr 9 < 2 ^ 31 by omega)]
  have hfit : ∀ j, fits .byte (.int (M 21 j)) = true := C.2.2.1 21 (by decide)
  refine ⟨m2, m1, fun j _ => hfit _, fun M1 e1 => ?_⟩
  obtain ⟨a1, f1⟩ := cW_cp (w := (SN D ns ns).1) C (by omega) hfit e1 (fun i hi => by
    rw [Nat.zero_add, L.2.2.2.2.2.1 i hi]; exact SN_by d i)
  have L1 := kL_fr f1 L
  refine ⟨i10, i10, ?_⟩
  rw [show ((10 : Int32)).toNatClampNeg = 10 from rfl, L1.2.2.2.2.2.2.2.2.2.1 10 (by omega) (th_8 (by omega)), L1.2.2.2.2.2.2.2.2.2.2.1 10 (by omega), lnP_10]
  unfold wp_FB_copyIn_23
  rw [a1.2.1, show (1701 : Int32) - nI (SL (W9 D nt ns nr) 11).2 = nI (1701 - (SL (W9 D nt ns nr) 11).2) from pk_sub (a := 1701) (by omega), pk_sub (by omega)]
  refine q_le (b := 0) (fun c => by omega) (fun _ => q_f (by decide) (q_lt (b := 0) (fun c => by omega) (fun _ => q_n0 (q_lt (fun c => by omega) (fun _ => ⟨by decide, nI_pos (by omega), nI_pos (by omega), ?_⟩)))))
  rw [cl_0, nI_clamp (show (SL (W9 D nt ns nr) 11).2 < 2 ^ 31 by omega), nI_clamp (show bgP D nt ns nr 10 < 2 ^ 31 by omega)]
  have hfit1 : ∀ j, fits .byte (.int (M1 23 j)) = true := a1.2.2.1 23 (by decide)
  refine ⟨m4, m3, fun j _ => hfit1 _, fun M2 e2 => ?_⟩
  obtain ⟨a2, f2⟩ := cW_cp (w := (SL (W9 D nt ns nr) 11).1) a1 (by omega) hfit1 e2 (fun i hi => by
    rw [Nat.zero_add, L1.2.2.2.2.2.2.1 i hi]; exact SL_by i)
  exact H M2 (f1.trans f2) a2
/-! entries -/
noncomputable def lkP (D : gMem) (nt ns nr p : Nat) : Int32 := if 5 ≤ p ∧ p < 8 then nI (enW (W9 D nt ns nr) 8) else if p = 8 then nI (enW (W9 D nt ns nr) 9) else 0
noncomputable def ifP (D : gMem) (nt ns nr p : Nat) : Int32 := if 5 ≤ p ∧ p < 8 then nI (enW (W9 D nt ns nr) (p - 5)) else if p = 8 then nI (1 + cnt (lc D) ns) else 0
noncomputable def enF (D : gMem) (nt ns nr : Nat) (F : Nat → Int32) (p x : Nat) : Nat → Int32 := w4 (w4 (w4 (w4 (w4 (w4 (w4 (w4 (w4 F x (nI (plL (W9 D nt ns nr) p))) (x + 4) (gTb3.getD p 0)) (x + 8) (gTb1.getD p 0)) (x + 16) (nI (bgP D nt ns nr p))) (x + 20) (nI (lnP D nt ns nr p))) (x + 24) (lkP D nt ns nr p)) (x + 28) (ifP D nt ns nr p)) (x + 32) (nI (alP D p))) (x + 36) (gTb4.getD p 0)
noncomputable def taF (D : gMem) (nt ns nr : Nat) (F : Nat → Int32) : Nat → Nat → Int32
  | 0 => F
  | p + 1 => if thW (W9 D nt ns nr) p = true then enF D nt ns nr (taF D nt ns nr F p) p (tbP D nt ns nr + 40 * enW (W9 D nt ns nr) p) else taF D nt ns nr F p
theorem w_rela {post : Bool → gMem → Prop} {p : Nat} (hp : p < 11) (H : post (decide (5 ≤ p ∧ p < 8)) M) : wp_OF_isRela post (nI p) M := by
  unfold wp_OF_isRela
  refine q_lt (b := 5) (fun c => ?_) (fun c => q_le (a := 8) (fun c2 => ?_) (fun c2 => ?_))
  · rw [decide_eq_false (by omega)] at H; exact H
  · rw [decide_eq_false (by omega)] at H; exact H
  · rw [decide_eq_true (by omega)] at H; exact H
theorem k_linkW {post : Int32 → gMem → Prop} {p : Nat} (hp : p < 11) (L : kL D nt ns nr M) (H : post (lkP D nt ns nr p) M) : wp_WR_linkOf post (nI p) M := by
  unfold wp_WR_linkOf
  unfold lkP at H
  refine w_rela hp ?_
  rw [cl_8, cl_9, L.2.2.2.2.2.2.2.1 8 (by omega), L.2.2.2.2.2.2.2.1 9 (by omega)]
  refine q_d (fun c => ?_) (fun c => ⟨in_8, ?_⟩)
  · rw [if_neg c] at H
    refine q_ne (b := 8) (fun c8 => ?_) (fun c8 => ⟨in_9, ?_⟩)
    · rw [if_neg c8] at H; exact H
    · rw [if_pos c8] at H; exact H
  · rw [if_pos c] at H; exact H
theorem k_infoW {post : Int32 → gMem → Prop} {p : Nat} (hp : p < 11) (L : kL D nt ns nr M) (H : post (ifP D nt ns nr p) M) : wp_WR_infoOf post (nI p) M := by
  unfold wp_WR_infoOf
  unfold ifP at H
  refine w_rela hp ?_
  rw [L.2.2.2.1, show (1 : Int32) + nI (cnt (lc D) ns) = nI (1 + cnt (lc D) ns) from nI_add 1 _]
  refine q_d (fun c => ?_) (fun c => ?_)
  · rw [if_neg c] at H
    refine q_ne (b := 8) (fun c8 => ?_) (fun c8 => ?_)
    · rw [if_neg c8] at H; exact H
    · rw [if_pos c8] at H; exact H
  · rw [if_pos c] at H
    rw [show nI p - (5 : Int32) = nI (p - 5) from pk_sub (b := 5) (by omega), nI_clamp (by omega), L.2.2.2.2.2.2.2.1 (p - 5) (by omega)]
    exact ⟨vp_in_nI (by omega) (by omega), H⟩
theorem k_entry2 {post : gMem → Prop} {p : Nat} (hp : p < 11) (ht : thW (W9 D nt ns nr) p = true) (L : kL D nt ns nr M) (d : dW D nt ns nr) (hn : n = szF D nt ns nr) (C : cW n M F) (H : ∀ M', fr s18 M M' → cW n M' (enF D nt ns nr F p (tbP D nt ns nr + 40 * enW (W9 D nt ns nr) p)) → post M') : wp_WR_putEntry post (nI p) M := by
  have he := en_in (D := D) (nt := nt) (ns := ns) (nr := nr) hp
  have hx : tbP D nt ns nr + 40 * enW (W9 D nt ns nr) p + 40 ≤ n := by rw [hn]; unfold szF; omega
  have h8 := C.1
  have vp : vp_in (nI p) 11 := vp_in_nI (by omega) (by omega)
  unfold wp_WR_putEntry
  rw [nI_clamp (by omega), L.2.2.2.2.2.2.2.2.2.2.2.2, L.2.2.2.2.2.2.2.1 p hp, L.2.2.2.2.2.2.2.2.1 p hp ht, show (40 : Int32) * nI (enW (W9 D nt ns nr) p) = nI (40 * enW (W9 D nt ns nr) p) from pk_mul 40 _, nI_add]
  generalize hX : tbP D nt ns nr + 40 * enW (W9 D nt ns nr) p = x at H hx
  refine ⟨vp, q_x ⟨vp, ?_⟩⟩
  rw [show nI x + (0 : Int32) = nI x from nI_add x 0, i4, i8, i16, show nI x + (20 : Int32) = nI (x + 20) from nI_add x 20, show nI x + (24 : Int32) = nI (x + 24) from nI_add x 24, show nI x + (28 : Int32) = nI (x + 28) from nI_add x 28, show nI x + (32 : Int32) = nI (x + 32) from nI_add x 32, show nI x + (36 : Int32) = nI (x + 36) from nI_add x 36]
  refine c_p4 C (fun M1 f1 C1 => ⟨vp, c_p4 C1 (fun M2 f2 C2 => ⟨vp, c_p4 C2 (fun M3 f3 C3 => ⟨vp, ?_⟩)⟩)⟩)
  have L3 := kL_fr (f1.trans (f2.trans f3)) L
  rw [L3.2.2.2.2.2.2.2.2.2.1 p hp ht]
  refine c_p4 C3 (fun M4 f4 C4 => ⟨vp, ?_⟩)
  have L4 := kL_fr f4 L3
  rw [L4.2.2.2.2.2.2.2.2.2.2.1 p hp]
  refine c_p4 C4 (fun M5 f5 C5 => ?_)
  have L5 := kL_fr f5 L4
  refine k_linkW hp L5 (c_p4 C5 (fun M6 f6 C6 => ?_))
  have L6 := kL_fr f6 L5
  refine k_infoW hp L6 (c_p4 C6 (fun M7 f7 C7 => ?_))
  have L7 := kL_fr f7 L6
  refine w_align hp L7.1 d (c_p4 C7 (fun M8 f8 C8 => ⟨vp, c_p4 C8 (fun M9 f9 C9 => H M9 (f1.trans (f2.trans (f3.trans (f4.trans (f5.trans (f6.trans (f7.trans (f8.trans f9)))))))) C9)⟩))
theorem k_table {post : gMem → Prop} (L : kL D nt ns nr M) (d : dW D nt ns nr) (hn : n = szF D nt ns nr) (C : cW n M F) (H : ∀ M', fr s18 M M' → cW n M' (taF D nt ns nr F 11) → post M') : wp_WR_putTable post M := by
  unfold wp_WR_putTable
  refine pk_loop (fun k p M' => wl_WR_putTable_2 post k (nI p) M') (fun p M' => fr s18 M M' ∧ cW n M' (taF D nt ns nr F p)) 11 0 M (by omega) ⟨fr.refl, C⟩ ?_ ?_
  · rintro k M' ⟨h1, h2⟩
    unfold wl_WR_putTable_2
    exact q_le (a := 11) (fun _ => H M' h1 h2) (fun c => by omega)
  · rintro k p M' hp ⟨h1, h2⟩ K
    have L1 := kL_fr h1 L
    have et : taF D nt ns nr F (p + 1) = if thW (W9 D nt ns nr) p = true then enF D nt ns nr (taF D nt ns nr F p) p (tbP D nt ns nr + 40 * enW (W9 D nt ns nr) p) else taF D nt ns nr F p := rfl
    unfold wl_WR_putTable_2
    rw [nI_1]
    refine q_le (a := 11) (fun c => by omega) (fun _ => w_isThere (W := W9 D nt ns nr) hp (fun c1 c2 => ?_) (by have := W9_b d (p := p); omega) ?_)
    · rw [L1.2.2.2.2.2.2.2.2.2.2.1 p hp]; unfold lnP; rw [if_neg (by omega)]
    · cases ht : thW (W9 D nt ns nr) p
      · rw [ht, if_neg (by decide)] at et
        exact q_t rfl (q_x (K M' ⟨h1, by rw [et]; exact h2⟩))
      · rw [ht, if_pos rfl] at et
        exact q_f (by decide) (k_entry2 hp ht L1 d hn h2 (fun M2 f2 C2 => q_x (K M2 ⟨h1.trans f2, by rw [et]; exact C2⟩)))
/-! all of it -/
noncomputable def fin (D : gMem) (nt ns nr : Nat) : Nat → Int32 := taF D nt ns nr (s10F D nt ns nr (s9F D nt ns nr (syF D nt ns nr (rA D nt ns nr (stF D nt ns nr (txF D nt ns nr (hdF D nt ns nr) 3) nt) 3)))) 11
def sWr (c j : Nat) : Prop := (19 ≤ c ∧ c ≤ 31) ∨ c = 18 ∨ (c = 17 ∧ j = 1)
def sWs (c _j : Nat) : Prop := 19 ≤ c ∧ c ≤ 31
theorem k_zeros {post : gMem → Prop} {m : Nat} (hm : m ≤ 8192) (hb : rFb M) (H : ∀ M', fr (fun c j => c = 18 ∨ (c = 17 ∧ j = 1)) M M' → cW m M' (fun _ => 0) → post M') : wp_FB_zeros post (nI m) M := by
  unfold wp_FB_zeros wp_AR_fill0_18 wp_AR_rangeCheck
  refine q_n0 (q_le (b := 8192) (fun _ => q_le (a := 0) (fun _ => q_t (by decide) (q_le (b := 8192) (fun _ => ?_) (fun c => by omega))) (fun c => by omega)) (fun c => by omega))
  refine pk_loop (fun k i M' => wl_AR_fill0_18_10 _ k (nI m) (0 : Int32) (nI i) M') (fun i M' => fr s18 M M' ∧ rFb M' ∧ ∀ k, k < i → M' 18 k = 0) m 0 M (by omega) ⟨fr.refl, hb, fun k hk => by omega⟩ ?_ ?_
  · rintro k M' ⟨h1, h2, h3⟩
    unfold wl_AR_fill0_18_10
    refine q_le (fun _ M3 e3 => H M3 ((h1.mono fun c j q => Or.inl q).trans (by rw [e3]; exact fr_upd (Or.inr ⟨rfl, rfl⟩))) ⟨hm, u_at e3, upB e3 h2, fun k hk => ?_⟩) (fun c => by omega)
    rw [u_ne e3, h3 k hk]
    show (0 : Int32) &&& 255 = 0
    decide
  · rintro k i M' hi ⟨h1, h2, h3⟩ K
    unfold wl_AR_fill0_18_10
    rw [nI_1, nI_clamp (by omega)]
    refine q_le (fun c => by omega) (fun _ => ⟨vp_in_nI (by omega) (by omega), fun M3 e3 => q_x (K M3 ⟨h1.trans (by rw [e3]; exact fr_upd rfl), by rw [e3]; exact rFb_upd h2 nb_f, fun k hk => ?_⟩)⟩)
    by_cases ck : k = i
    · subst ck; rw [u_at e3, nar_b]; decide
    · rw [u_ne e3]; exact h3 k (by omega)
theorem w_write {post : Int32 → gMem → Prop} (d : dW M nt ns nr) (hb : rFb M) (h1 : bySt M nt → post (-1) M) (h2 : ¬ bySt M nt → bySy M ns → post (-2) M) (h3 : ¬ bySt M nt → ¬ bySy M ns → byRe M nr → post (-3) M) (h4 : ¬ bySt M nt → ¬ bySy M ns → ¬ byRe M nr → 8192 < szF M nt ns nr → ∀ M', fr sWs M M' → rFb M' → post (-4) M') (h5 : ¬ bySt M nt → ¬ bySy M ns → ¬ byRe M nr → szF M nt ns nr ≤ 8192 → ∀ M', fr sWr M M' → cW (szF M nt ns nr) M' (fin M nt ns nr) → post (nI (szF M nt ns nr)) M') : wp_OF_write post M := by
  unfold wp_OF_write wp_WR_writeAll
  refine w_stB d (fun c => q_f (by decide) (h1 c)) (fun n1 => q_t rfl (w_syB d (fun c => q_f (by decide) (h2 n1 c)) (fun n2 => q_t rfl (w_reB d (fun c => q_f (by decide) (h3 n1 n2 c)) (fun n3 => q_t rfl ?_)))))
  have E0 : eqD M M := fun _ _ _ => rfl
  refine w_order d.2.2.2.1 (fun M1 f1 o1 c1 => ?_)
  have b1 : rFb M1 := rFb_fr f1 (fb_n (by unfold sOr; omega)) hb
  have E1 : eqD M M1 := eqD_fr f1 (by unfold sOr; omega) E0
  have o29 : ∀ r, r < ns → M1 29 r = nI (od M ns r) := fun r hr => by
    have ho := od_s (M := M) hr
    have := (o1 _ ho.1).1
    rw [ho.2] at this
    exact this
  refine w_gather E1 d.2.2.2.1 b1 o29 (fun M2 f2 b2 p2 l2 t2 => ?_)
  have E2 := eqD_fr f2 sGn_D E1
  refine w_measure E2 d b2 l2 (fun M3 f3 b3 m3 => ?_)
  have E3 : eqD M M3 := eqD_fr f3 (s28_D (by omega)) E2
  refine w_number (W := W9 M nt ns nr) b3 m3 (fun p => by have := W9_b d (p := p); omega) (fun M4 f4 b4 n4 g4 l4 z4 t4 => ?_)
  have E4 : eqD M M4 := eqD_fr f4 (by unfold sNE; omega) E3
  have h28 : ∀ p, p < 11 → M4 28 p = nI (lnP M nt ns nr p) := fun p hp => by
    by_cases c : p = 10
    · subst c; rw [lnP_10]; exact z4
    · rw [f4 28 p (by unfold sNE; omega), m3 p (by omega)]; unfold lnP; rw [if_neg c]
  refine w_lay E4 d b4 h28 (fun M5 f5 b5 g5 t5 => ?_)
  have E5 := eqD_fr f5 sLp_D E4
  have L5 : kL M nt ns nr M5 := by
    refine ⟨E5, fun r hr => ?_, fun x hx => ?_, ?_, fun r hr => ?_, fun k hk => ?_, fun k hk => ?_, fun p hp => ?_, fun p hp w => ?_, g5, fun p hp => ?_, ?_, t5⟩
    · rw [f5 29 r (by unfold sLp; omega), f4 29 r (by unfold sNE; omega), f3 29 r (by omega), f2 29 r (by unfold sGn; omega)]; exact o29 r hr
    · rw [f5 30 x (by unfold sLp; omega), f4 30 x (by unfold sNE; omega), f3 30 x (by omega), f2 30 x (by unfold sGn; omega)]; exact (o1 x hx).2
    · rw [f5 19 12 (by unfold sLp; omega), f4 19 12 (by unfold sNE; omega), f3 19 12 (by omega), f2 19 12 (by unfold sGn; omega)]; exact c1
    · rw [f5 31 r (by unfold sLp; omega), f4 31 r (by unfold sNE; omega), f3 31 r (by omega)]; exact p2 r hr
    · rw [f5 21 k (by unfold sLp; omega), f4 21 k (by unfold sNE; omega), f3 21 k (by omega)]; exact t2 k hk
    · rw [f5 23 k (by unfold sLp; omega)]; exact t4 k hk
    · rw [f5 25 p (by unfold sLp; omega)]; exact n4 p hp
    · rw [f5 26 p (by unfold sLp; omega)]; exact l4 p hp w
    · rw [f5 28 p (by unfold sLp; omega)]; exact h28 p hp
    · rw [f5 19 13 (by unfold sLp; omega)]; exact g4
  have fA : fr sWs M M5 := by
    refine (f1.mono fun c j q => by unfold sOr at q; unfold sWs; omega).trans ((f2.mono fun c j q => by unfold sGn at q; unfold sWs; omega).trans ((f3.mono fun c j q => by unfold sWs; omega).trans ((f4.mono fun c j q => by unfold sNE at q; unfold sWs; omega).trans (f5.mono fun c j q => by unfold sLp at q; unfold sWs; omega))))
  have hE := nE_b (D := M) (nt := nt) (ns := ns) (nr := nr)
  have hT := tb_in d
  rw [L5.2.2.2.2.2.2.2.2.2.2.2.2, L5.2.2.2.2.2.2.2.2.2.2.2.1, show (40 : Int32) * nI (nE M nt ns nr) = nI (40 * nE M nt ns nr) from pk_mul 40 _, nI_add]
  have hsz : szF M nt ns nr = tbP M nt ns nr + 40 * nE M nt ns nr := rfl
  rw [← hsz]
  refine q_x (q_le (b := 8192) (fun c => k_zeros c b5 (fun M6 f6 C6 => ?_)) (fun c => h4 n1 n2 n3 c M5 fA b5))
  have L6 : kL M nt ns nr M6 := by
    have o : ∀ c j, c ≠ 18 → c ≠ 17 → M6 c j = M5 c j := fun c j a1 a2 => f6 c j (by omega)
    obtain ⟨a1, a2, a3, a4, a5, a6, a7, a8, a9, aa, ab, ac, ad⟩ := L5
    exact ⟨fun c j q => by rw [o c j (by omega) (by omega)]; exact a1 c j q, fun r hr => by rw [o 29 r (by omega) (by omega)]; exact a2 r hr, fun r hr => by rw [o 30 r (by omega) (by omega)]; exact a3 r hr, by rw [o 19 12 (by omega) (by omega)]; exact a4, fun r hr => by rw [o 31 r (by omega) (by omega)]; exact a5 r hr, fun k hk => by rw [o 21 k (by omega) (by omega)]; exact a6 k hk, fun k hk => by rw [o 23 k (by omega) (by omega)]; exact a7 k hk, fun p hp => by rw [o 25 p (by omega) (by omega)]; exact a8 p hp, fun p hp w => by rw [o 26 p (by omega) (by omega)]; exact a9 p hp w, fun p hp w => by rw [o 27 p (by omega) (by omega)]; exact aa p hp w, fun p hp => by rw [o 28 p (by omega) (by omega)]; exact ab p hp, by rw [o 19 13 (by omega) (by omega)]; exact ac, by rw [o 19 14 (by omega) (by omega)]; exact ad⟩
  refine k_head L6 d n1 rfl C6 (fun M7 f7 C7 => ?_)
  have L7 := kL_fr f7 L6
  refine k_text L7 d rfl C7 (fun M8 f8 C8 => ?_)
  have L8 := kL_fr f8 L7
  refine k_starts2 L8 d rfl C8 (fun M9 f9 C9 => ?_)
  have L9 := kL_fr f9 L8
  refine k_relA L9 d rfl C9 (fun Ma fa Ca => ?_)
  have La := kL_fr fa L9
  refine k_syms2 La d rfl Ca (fun Mb fb Cb => ?_)
  have Lb := kL_fr fb La
  refine k_strs Lb d rfl Cb (fun Mc fc Cc => ?_)
  have Lc := kL_fr fc Lb
  refine k_table Lc d rfl Cc (fun Md fd Cd => ?_)
  have fB : fr s18 M6 Md := f7.trans (f8.trans (f9.trans (fa.trans (fb.trans (fc.trans fd)))))
  exact h5 n1 n2 n3 c Md ((fA.mono fun c j q => Or.inl q).trans ((f6.mono fun c j q => Or.inr q).trans (fB.mono fun c j q => Or.inr (Or.inl q)))) Cd
end
