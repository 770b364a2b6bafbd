/-! write: the reference's layout -/
section
variable {M D : gMem} {nt ns nr : Nat}
def sLm (c j : Nat) : Prop := (65 ≤ c ∧ c ≤ 72) ∨ (c = 41 ∧ (j = 30 ∨ j = 32 ∨ j = 40))
theorem sLm_D : ∀ c j, (1 ≤ c ∧ c ≤ 8 ∨ 42 ≤ c ∧ c ≤ 61 ∨ c = 63 ∨ c = 64) → ¬ sLm c j := by unfold sLm; omega
theorem th_4 {W : Nat → Nat} {p : Nat} (h : p < 4) : thW W p = true := decide_eq_true (Or.inl h)
theorem th_8 {W : Nat → Nat} {p : Nat} (h : 8 ≤ p) : thW W p = true := decide_eq_true (Or.inr (Or.inl h))
/-- the places from 4 on -/
theorem m_l249 {post : Int32 → gMem → Prop} (d : dW D nt ns nr) (h66 : ∀ p, p < 11 → M 66 p = nI (lnP D nt ns nr p)) (h67 : ∀ p, p < 11 → M 67 p = nI (enW (W9 D nt ns nr) p)) (H : ∀ M', fr (fun c j => c = 65 ∧ 4 ≤ j) M M' → (∀ p, 4 ≤ p → p < 11 → thW (W9 D nt ns nr) p = true → M' 65 p = nI (bgP D nt ns nr p)) → post (nI (tbP D nt ns nr)) M') : ∃ n9, wl_MO_lay_249 post n9 (nI (cu D nt ns nr 4)) (4 : Int32) M := by
  have go : ∀ dd p (M' : gMem), p + dd = 11 → 4 ≤ p → fr (fun c j => c = 65 ∧ 4 ≤ j) M M' → (∀ q, 4 ≤ q → q < p → thW (W9 D nt ns nr) q = true → M' 65 q = nI (bgP D nt ns nr q)) → wl_MO_lay_249 post (dd + 1) (nI (cu D nt ns nr p)) (nI p) M' := by
    intro dd
    induction dd with
    | zero =>
      intro p M' hp h4 f I
      have hc := cu_b d p
      have ep : p = 11 := by omega
      subst ep
      unfold wl_MO_lay_249
      exact q_le (a := 11) (fun _ => m_up (b := 4) (by omega) (by unfold pw; omega) (H M' f I)) (fun c => by omega)
    | succ dd ih =>
      intro p M' hp h4 f I
      have hc := cu_b d p
      have hl := lnP_b d (p := p)
      have he := en_le (W := W9 D nt ns nr) (p := p)
      have ec : cu D nt ns nr (p + 1) = if p = 3 then cu D nt ns nr p else if thW (W9 D nt ns nr) p = true then up (cu D nt ns nr p) (alP D p) + lnP D nt ns nr p else cu D nt ns nr p := rfl
      rw [if_neg (by omega)] at ec
      have ea : alP D p = if p = 4 then 2 else if p < 9 then 4 else 1 := by unfold alP; rw [if_neg (by omega)]
      have eb : bgP D nt ns nr p = up (cu D nt ns nr p) (alP D p) := by unfold bgP; rw [if_neg (by omega)]
      unfold wl_MO_lay_249
      rw [nI_clamp (by omega), f 67 p (by omega), h67 p (by omega), show nI p + (1 : Int32) = nI (p + 1) from nI_1 p]
      refine q_le (a := 11) (fun c => by omega) (fun _ => ⟨vp_in_nI (by omega) (by omega), q_ne (b := 0) (fun c => ?_) (fun c => q_x ?_)⟩)
      · have ht : thW (W9 D nt ns nr) p = true := by
          cases e : thW (W9 D nt ns nr) p
          · rw [enW, e, if_neg (by decide)] at c; exact absurd rfl c
          · rfl
        rw [ht, if_pos rfl] at ec
        have fin : wj_MO_lay_295 post (wl_MO_lay_249 post (dd + 1)) (nI p) (nI (up (cu D nt ns nr p) (alP D p))) M' := by
          unfold wj_MO_lay_295
          rw [nI_clamp (by omega), show nI p + (1 : Int32) = nI (p + 1) from nI_1 p]
          refine ⟨vp_in_nI (by omega) (by omega), fun M4 e4 => ⟨vp_in_nI (by omega) (by omega), q_x (q_x ?_)⟩⟩
          rw [show M4 66 p = nI (lnP D nt ns nr p) by rw [u_ne e4, f 66 p (by omega)]; exact h66 p (by omega), nI_add, ← ec]
          refine ih (p + 1) M4 (by omega) (by omega) (f.trans (by rw [e4]; exact fr_upd ⟨rfl, h4⟩)) (fun q q4 hq w => ?_)
          by_cases cq : q = p
          · subst cq; rw [eb]; exact u_at e4
          · rw [u_ne e4]; exact I q q4 (by omega) w
        refine q_ne (b := 4) (fun c4 => q_le (a := 9) (fun c9 => ?_) (fun c9 => m_up (b := 4) (by omega) (by unfold pw; omega) ?_)) (fun c4 => m_up (b := 2) (by omega) (by unfold pw; omega) ?_)
        · rw [ea, if_neg c4, if_neg (by omega), show up (cu D nt ns nr p) 1 = cu D nt ns nr p by unfold up; rw [Nat.div_one, Nat.mul_one]; omega] at fin
          exact fin
        · rw [ea, if_neg c4, if_pos c9] at fin; exact fin
        · rw [ea, if_pos c4] at fin; exact fin
      · have ht : thW (W9 D nt ns nr) p = false := by
          cases e : thW (W9 D nt ns nr) p
          · rfl
          · rw [enW, e, if_pos rfl] at c; omega
        rw [ht, if_neg (by decide)] at ec
        rw [← ec]
        refine ih (p + 1) M' (by omega) (by omega) f (fun q q4 hq w => ?_)
        by_cases cq : q = p
        · subst cq; rw [ht] at w; exact absurd w (by decide)
        · exact I q q4 (by omega) w
  exact ⟨8, go 7 4 M (by omega) (by omega) fr.refl (fun q q4 hq => by omega)⟩
/-- numbers -/
theorem m_l159 {post : Int32 → gMem → Prop} {W : Nat → Nat} {v1 : Int32} (hW : ∀ p, W p < 2 ^ 31) (h66 : ∀ p, 4 ≤ p → p < 8 → M 66 p = nI (W p)) (h40 : M 41 40 = nI 1) (H : ∀ M', fr (fun c j => c = 67 ∨ (c = 41 ∧ j = 40)) M M' → (∀ p, p < 11 → M' 67 p = nI (enW W p)) → M' 41 40 = nI (1 + cnt (thW W) 11) → wp_MO_sizeOfTitles (fun r11 M12 => vp_in (10 : Int32) 11 ∧ ∀ M13 : gMem, M13 = va_up M12 66 (upd (M12 66) ((10 : Int32)).toNatClampNeg r11) → ∃ n9 : Nat, wl_MO_lay_249 post n9 v1 (4 : Int32) M13) M') : ∃ n9, wl_MO_lay_159 post n9 v1 (0 : Int32) M := by
  refine pk_loop (fun k p M' => wl_MO_lay_159 post k v1 (nI p) M') (fun p M' => fr (fun c j => c = 67 ∨ (c = 41 ∧ j = 40)) M M' ∧ (∀ q, q < p → M' 67 q = nI (enW W q)) ∧ M' 41 40 = nI (1 + cnt (thW W) p)) 11 0 M (by omega) ⟨fr.refl, fun q hq => by omega, h40⟩ ?_ ?_
  · rintro k M' ⟨h1, h2, h3⟩
    unfold wl_MO_lay_159
    exact q_le (a := 11) (fun _ => H M' h1 h2 h3) (fun c => by omega)
  · rintro k p M' hp ⟨h1, h2, h3⟩ K
    have hc := cnt_le (g := thW W) p
    have ec : cnt (thW W) (p + 1) = cnt (thW W) p + if thW W p = true then 1 else 0 := rfl
    have yes : thW W p = true → wj_MO_lay_185 post (wl_MO_lay_159 post k) v1 (nI p) M' := by
      intro ht
      unfold wj_MO_lay_185 wj_MO_lay_190 wj_MO_lay_210
      rw [nI_clamp (by omega), h3, show nI p + (1 : Int32) = nI (p + 1) from nI_1 p]
      refine q_f (by decide) ⟨vp_in_nI (by omega) (by omega), fun M2 e2 => q_f (by decide) (fun M3 e3 => q_x ?_)⟩
      rw [show M2 41 40 = nI (1 + cnt (thW W) p) by rw [u_ne e2]; exact h3, nI_1] at e3
      refine K M3 ⟨h1.trans ((show fr (fun c j => c = 67 ∨ (c = 41 ∧ j = 40)) M' M2 by rw [e2]; exact fr_upd (Or.inl rfl)).trans (by rw [e3]; exact fr_upd (Or.inr ⟨rfl, rfl⟩))), fun q hq => ?_, by rw [u_at e3, ec, ht, if_pos rfl]; rfl⟩
      rw [u_ne e3]
      by_cases cq : q = p
      · subst cq; rw [u_at e2, enW, ht, if_pos rfl]
      · rw [u_ne e2]; exact h2 q (by omega)
    have no : thW W p = false → wj_MO_lay_190 post (wl_MO_lay_159 post k) v1 (nI p) (0 : Int32) M' := by
      intro ht
      unfold wj_MO_lay_190 wj_MO_lay_210
      rw [nI_clamp (by omega), show nI p + (1 : Int32) = nI (p + 1) from nI_1 p]
      refine q_t rfl ⟨vp_in_nI (by omega) (by omega), fun M2 e2 => q_t rfl (fun M3 e3 => q_x ?_)⟩
      rw [show M2 41 40 = nI (1 + cnt (thW W) p) by rw [u_ne e2]; exact h3, show nI (1 + cnt (thW W) p) + (0 : Int32) = nI (1 + cnt (thW W) p + 0) from nI_add _ 0] at e3
      refine K M3 ⟨h1.trans ((show fr (fun c j => c = 67 ∨ (c = 41 ∧ j = 40)) M' M2 by rw [e2]; exact fr_upd (Or.inl rfl)).trans (by rw [e3]; exact fr_upd (Or.inr ⟨rfl, rfl⟩))), fun q hq => ?_, by rw [u_at e3, ec, ht, if_neg (by decide)]; rfl⟩
      rw [u_ne e3]
      by_cases cq : q = p
      · subst cq; rw [u_at e2, enW, ht, if_neg (by decide)]; rfl
      · rw [u_ne e2]; exact h2 q (by omega)
    have hWp := hW p
    unfold wl_MO_lay_159
    refine q_le (a := 11) (fun c => by omega) (fun _ => q_lt (b := 4) (fun c => yes (th_4 c)) (fun c => q_le (a := 8) (fun c8 => yes (th_8 c8)) (fun c8 => ⟨vp_in_nI (by omega) (by omega), ?_⟩)))
    rw [nI_clamp (by omega), h1 66 p (by omega), h66 p c c8]
    exact q_le (b := 0) (fun c0 => no (decide_eq_false (by omega))) (fun c0 => yes (decide_eq_true (by omega)))
theorem m_lay {post : Int32 → gMem → Prop} (E : eqD D M) (d : dW D nt ns nr) (R : rTi M) (H : ∀ M', fr sLm M M' → (∀ p, p < 11 → thW (W9 D nt ns nr) p = true → M' 65 p = nI (bgP D nt ns nr p)) → (∀ p, p < 11 → M' 66 p = nI (lnP D nt ns nr p)) → (∀ p, p < 11 → M' 67 p = nI (enW (W9 D nt ns nr) p)) → M' 41 40 = nI (1 + cnt (thW (W9 D nt ns nr)) 11) → (∀ x, x < ns → M' 70 x = nI (plN D ns (tn D ns x))) → (∀ p, p < 11 → thW (W9 D nt ns nr) p = true → M' 72 p = nI (plL (W9 D nt ns nr) p)) → post (nI (tbP D nt ns nr)) M') : wp_MO_lay post M := by
  have hnt := d.2.2.1.1
  have hns := d.2.2.2.1.1
  unfold wp_MO_lay
  refine pk_loop (fun k s M' => wl_MO_lay_5 post k (nI (cu D nt ns nr s)) (nI s) M') (fun s M' => fr sLm M M' ∧ ∀ p, p < s → M' 65 p = nI (bgP D nt ns nr p) ∧ M' 66 p = nI (lnP D nt ns nr p)) 3 0 M (by omega) ⟨fr.refl, fun p hp => by omega⟩ ?_ ?_
  · rintro k M' ⟨h1, h2⟩
    have E' := eqD_fr h1 sLm_D E
    have l3 := lnS_e d (show 3 < 4 by omega)
    unfold wl_MO_lay_5
    refine q_le (a := 3) (fun _ => ⟨vp_in_nI (n := 3) (by omega) (by omega), fun M1 e1 => ⟨vp_in_nI (n := 3) (by omega) (by omega), vp_in_nI (n := 3) (by omega) (by omega), fun M2 e2 => ⟨in_02, in_4, fun M3 e3 => ?_⟩⟩⟩) (fun c => by omega)
    rw [show ((3 : Int32)).toNatClampNeg = 3 from rfl] at e1 e2
    rw [show M1 43 3 = nI (lnS D 3) by rw [u_ne e1, E' 43 3 (by omega)]; exact l3.1] at e2
    rw [cl_4, cl_0, show M2 46 0 = nI nt by rw [u_ne e2, u_ne e1, E' 46 0 (by omega)]; exact d.2.2.1.2.2.1, show (2 : Int32) * nI nt = nI (2 * nt) from pk_mul 2 nt] at e3
    have f3 : fr sLm M M3 := h1.trans ((show fr sLm M' M1 by rw [e1]; exact fr_upd (Or.inl ⟨by omega, by omega⟩)).trans ((show fr sLm M1 M2 by rw [e2]; exact fr_upd (Or.inl ⟨by omega, by omega⟩)).trans (by rw [e3]; exact fr_upd (Or.inl ⟨by omega, by omega⟩))))
    have c3 : cu D nt ns nr 4 = cu D nt ns nr 3 := by show (if 3 = 3 then _ else _) = _; rw [if_pos rfl]
    have P65 : ∀ p, p < 4 → M3 65 p = nI (bgP D nt ns nr p) := fun p hp => by
      rw [u_ne e3, u_ne e2]
      by_cases cp : p = 3
      · subst cp; rw [u_at e1]; unfold bgP; rw [if_pos rfl]
      · rw [u_ne e1]; exact (h2 p (by omega)).1
    have P66 : ∀ p, p < 5 → M3 66 p = nI (lnP D nt ns nr p) := fun p hp => by
      by_cases cp : p = 4
      · subst cp; rw [u_at e3]; unfold lnP W9; rw [if_neg (by omega), if_neg (by omega), if_pos rfl]
      · rw [u_ne e3]
        by_cases cp3 : p = 3
        · subst cp3; rw [u_at e2]; unfold lnP W9; rw [if_neg (by omega), if_pos (by omega)]
        · rw [u_ne e2, u_ne e1]; exact (h2 p (by omega)).2
    rw [← c3]
    refine pk_loop (fun k s N => wl_MO_lay_90 post k (nI (cu D nt ns nr 4)) (nI s) N) (fun s N => fr sLm M N ∧ (∀ p, p < 4 → N 65 p = nI (bgP D nt ns nr p)) ∧ ∀ p, p < 5 + s → N 66 p = nI (lnP D nt ns nr p)) 3 0 M3 (by omega) ⟨f3, P65, P66⟩ ?_ ?_
    · rintro k2 N ⟨g1, g2, g3⟩
      have EN := eqD_fr g1 sLm_D E
      unfold wl_MO_lay_90
      refine q_le (a := 3) (fun _ => ⟨in_02, in_8, fun N4 e4 => ?_⟩) (fun c => by omega)
      rw [cl_8, cl_0, EN 54 0 (by omega), d.2.2.2.1.2.2.1, show (16 : Int32) * nI ns = nI (16 * ns) from pk_mul 16 ns, show (16 : Int32) + nI (16 * ns) = nI (16 + 16 * ns) from nI_add 16 _] at e4
      have f4 : fr sLm N N4 := by rw [e4]; exact fr_upd (Or.inl ⟨by omega, by omega⟩)
      have E4 := eqD_fr (g1.trans f4) sLm_D E
      refine m_order hns (by rw [E4 54 0 (by omega)]; exact d.2.2.2.1.2.2.1) (fun N6 f6 o6 => ?_)
      have elc : lc N4 = lc D := by funext x; unfold lc; rw [E4 50 x (by omega)]
      have etn : ∀ x, tn N4 ns x = tn D ns x := fun x => by unfold tn; rw [elc]
      have f6' : fr sLm N4 N6 := f6.mono fun c j q => Or.inl (by unfold s71 at q; omega)
      have E6 := eqD_fr f6' sLm_D E4
      refine m_symNames E6 d.2.2.2.1 (fun x hx => by rw [← etn]; exact o6 x hx) (fun N8 f8 n8 t8 => ⟨in_9, fun N9 e9 N10 e10 => ?_⟩)
      rw [cl_9] at e9
      have f8' : fr sLm N6 N8 := f8.mono fun c j q => by unfold sNm at q; unfold sLm; omega
      have f9 : fr sLm N8 N9 := by rw [e9]; exact fr_upd (Or.inl ⟨by omega, by omega⟩)
      have f10 : fr sLm N9 N10 := by rw [e10]; exact fr_upd (Or.inr ⟨rfl, by omega⟩)
      have fA : fr sLm M N10 := g1.trans (f4.trans (f6'.trans (f8'.trans (f9.trans f10))))
      have lo : ∀ c j, (c = 65 ∨ c = 66 ∧ j < 8) → N10 c j = N c j := fun c j hc => by
        rw [u_ne e10, u_ne e9, f8 c j (by unfold sNm; omega), f6 c j (by unfold s71; omega), u_ne e4]
      have Q66 : ∀ p, p < 10 → N10 66 p = nI (lnP D nt ns nr p) := fun p hp => by
        by_cases c8 : p < 8
        · rw [lo 66 p (by omega)]; exact g3 p (by omega)
        · by_cases c9 : p = 9
          · subst c9; rw [u_ne e10, u_at e9]; unfold lnP W9; rw [if_neg (by omega), if_neg (by omega), if_neg (by omega), if_neg (by omega), if_neg (by omega), if_pos rfl]
          · rw [show p = 8 by omega, u_ne e10, u_ne e9, f8 66 8 (by unfold sNm; omega), f6 66 8 (by unfold s71; omega), u_at e4]
            unfold lnP W9
            rw [if_neg (by omega), if_neg (by omega), if_neg (by omega), if_neg (by omega), if_pos rfl]
            congr 1
            omega
      refine m_l159 (W := W9 D nt ns nr) (fun p => by have := W9_b d (p := p); omega) (fun p p4 p8 => by rw [Q66 p (by omega)]; unfold lnP; rw [if_neg (by omega)]) (u_at e10) (fun N11 f11 n11 t11 => ?_)
      have f11' : fr sLm N10 N11 := f11.mono fun c j q => by unfold sLm; omega
      have R11 : rTi N11 := rTi_fr (fA.trans f11') (by unfold sLm; omega) (by unfold sLm; omega) R
      refine m_labels R11 n11 (fun N12 f12 l12 t12 => ⟨vp_in_nI (n := 10) (by omega) (by omega), fun N13 e13 => ?_⟩)
      rw [show ((10 : Int32)).toNatClampNeg = 10 from rfl] at e13
      have f12' : fr sLm N11 N12 := f12.mono fun c j q => by unfold sTl at q; unfold sLm; omega
      have f13 : fr sLm N12 N13 := by rw [e13]; exact fr_upd (Or.inl ⟨by omega, by omega⟩)
      have W66 : ∀ p, p < 11 → N13 66 p = nI (lnP D nt ns nr p) := fun p hp => by
        by_cases c : p = 10
        · subst c; rw [u_at e13]; unfold lnP; rw [if_pos rfl]
        · rw [u_ne e13, f12 66 p (by unfold sTl; omega), f11 66 p (by omega)]; exact Q66 p (by omega)
      refine m_l249 d W66 (fun p hp => by rw [u_ne e13, f12 67 p (by unfold sTl; omega)]; exact n11 p hp) (fun N14 f14 b14 => ?_)
      have f14' : fr sLm N13 N14 := f14.mono fun c j q => Or.inl (by omega)
      refine H N14 (fA.trans (f11'.trans (f12'.trans (f13.trans f14')))) (fun p hp w => ?_) (fun p hp => by rw [f14 66 p (by omega)]; exact W66 p hp) (fun p hp => ?_) ?_ (fun x hx => ?_) (fun p hp w => ?_)
      · by_cases c4 : 4 ≤ p
        · exact b14 p c4 hp w
        · rw [f14 65 p (by omega), u_ne e13, f12 65 p (by unfold sTl; omega), f11 65 p (by omega), lo 65 p (by omega)]; exact g2 p (by omega)
      · rw [f14 67 p (by omega), u_ne e13, f12 67 p (by unfold sTl; omega)]; exact n11 p hp
      · rw [f14 41 40 (by omega), u_ne e13, f12 41 40 (by unfold sTl; omega)]; exact t11
      · rw [f14 70 x (by omega), u_ne e13, f12 70 x (by unfold sTl; omega), f11 70 x (by omega), u_ne e10, u_ne e9]; exact n8 x hx
      · rw [f14 72 p (by omega), u_ne e13]; exact l12 p hp w
    · rintro k2 s N hs ⟨g1, g2, g3⟩ K
      have EN := eqD_fr g1 sLm_D E
      have hrc : rcS D nr s ≤ 300 := Nat.le_trans (cnt_le nr) d.2.2.2.2.1
      unfold wl_MO_lay_90
      rw [show nI s + (1 : Int32) = nI (s + 1) from nI_1 s, show (5 : Int32) + nI s = nI (5 + s) from nI_add 5 s, nI_clamp (by omega)]
      refine q_le (a := 3) (fun c => by omega) (fun _ => m_relOf EN d.2.2.2.2 ⟨vp_in_nI (by omega) (by omega), fun N3 e3 => q_x ?_⟩)
      rw [show (12 : Int32) * nI (rcS D nr s) = nI (12 * rcS D nr s) from pk_mul 12 _] at e3
      refine K N3 ⟨g1.trans (by rw [e3]; exact fr_upd (Or.inl ⟨by omega, by omega⟩)), fun p hp => by rw [u_ne e3]; exact g2 p hp, fun p hp => ?_⟩
      by_cases cp : p = 5 + s
      · subst cp
        rw [u_at e3]
        unfold lnP W9
        rw [if_neg (by omega), if_neg (by omega), if_neg (by omega), if_pos (by omega), show 5 + s - 5 = s by omega]
      · rw [u_ne e3]; exact g3 p (by omega)
  · rintro k s M' hs ⟨h1, h2⟩ K
    have E' := eqD_fr h1 sLm_D E
    have hc := cu_b d s
    have ha := alP_e d (p := s)
    have hab := pw_b ha.1
    have hu := up_b (a := cu D nt ns nr s) hab.1
    have ls := lnS_e d (show s < 4 by omega)
    have ec : cu D nt ns nr (s + 1) = up (cu D nt ns nr s) (alP D s) + lnP D nt ns nr s := by
      show (if s = 3 then _ else if thW (W9 D nt ns nr) s = true then _ else _) = _
      rw [if_neg (by omega), if_pos (th_4 (by omega))]
    have el : lnP D nt ns nr s = lnS D s := by unfold lnP W9; rw [if_neg (by omega), if_pos (by omega)]
    unfold wl_MO_lay_5
    rw [show nI s + (1 : Int32) = nI (s + 1) from nI_1 s, nI_clamp (by omega), E' 44 s (by omega), (ha.2 (by omega)).1]
    refine q_le (a := 3) (fun c => by omega) (fun _ => ⟨vp_in_nI (by omega) (by omega), m_up (by omega) ha.1 ⟨vp_in_nI (by omega) (by omega), fun M1 e1 => ⟨vp_in_nI (by omega) (by omega), vp_in_nI (by omega) (by omega), fun M2 e2 => ⟨vp_in_nI (by omega) (by omega), q_x (q_x ?_)⟩⟩⟩⟩)
    have k43 : M1 43 s = nI (lnS D s) := by rw [u_ne e1, E' 43 s (by omega)]; exact ls.1
    rw [k43] at e2
    rw [show M2 43 s = nI (lnS D s) by rw [u_ne e2]; exact k43, nI_add, ← el, ← ec]
    refine K M2 ⟨h1.trans ((show fr sLm M' M1 by rw [e1]; exact fr_upd (Or.inl ⟨by omega, by omega⟩)).trans (by rw [e2]; exact fr_upd (Or.inl ⟨by omega, by omega⟩))), fun p hp => ?_⟩
    by_cases cp : p = s
    · subst cp
      refine ⟨?_, by rw [u_at e2, el]⟩
      rw [u_ne e2, u_at e1]
      unfold bgP
      rw [if_neg (by omega)]
    · rw [u_ne e2, u_ne e1, u_ne e2, u_ne e1]; exact h2 p (by omega)
end
