/-! write: the symbols' names -/
section
variable {M D : gMem} {nt ns nr : Nat}
def eqD (D M : gMem) : Prop := ∀ c j, (1 ≤ c ∧ c ≤ 8 ∨ 42 ≤ c ∧ c ≤ 61 ∨ c = 63 ∨ c = 64) → M c j = D c j
theorem eqD_fr {S : Nat → Nat → Prop} {M' : gMem} (f : fr S M M') (hd : ∀ c j, (1 ≤ c ∧ c ≤ 8 ∨ 42 ≤ c ∧ c ≤ 61 ∨ c = 63 ∨ c = 64) → ¬ S c j) (E : eqD D M) : eqD D M' := fun c j h => (f c j (hd c j h)).trans (E c j h)
noncomputable def wfN (D : gMem) (n r i : Nat) : Int32 := D 53 (16 * od D n r + i)
noncomputable def mlN (D : gMem) (n r : Nat) : Nat := (D 52 (od D n r)).toInt.toNat
noncomputable def SN (D : gMem) (n r : Nat) : (Nat → Int32) × Nat := sts (fun _ => true) (wfN D n) (mlN D n) r
noncomputable def plN (D : gMem) (n r : Nat) : Nat := plc (SN D n r) (wfN D n r) (mlN D n r)
theorem SN_s {r : Nat} : SN D ns (r + 1) = stp (SN D ns r) (wfN D ns r) (mlN D ns r) := by
  unfold SN
  exact if_pos rfl
theorem nm_in (dy : dSy D ns) {x : Nat} (hx : x < ns) : ∃ m : Nat, 1 ≤ m ∧ m ≤ 16 ∧ D 52 x = nI m ∧ (D 52 x).toInt.toNat = m ∧ ∀ i, i < m → D 7 (16 * x + i) = D 53 (16 * x + i) ∧ 33 ≤ (D 53 (16 * x + i)).toInt ∧ (D 53 (16 * x + i)).toInt ≤ 126 := by
  have r := dy.2.2.2 x hx
  have ok := r.2.2.2.2.2.2.1
  have l1 := ok.2.2.2.2.2.2.1
  have l2 := ok.2.2.2.2.2.2.2.1
  obtain ⟨m, hm, em⟩ := ti_nat (x := D 52 x) (by omega)
  rw [em, ti_nI hm] at l1 l2
  refine ⟨m, by omega, by omega, em, by rw [em, ti_nI hm]; rfl, fun i hi => r.2.2.2.2.2.2.2 i (by rw [em, ti_nI hm]; omega)⟩
theorem mlN_in (dy : dSy D ns) {r : Nat} (hr : r < ns) : 1 ≤ mlN D ns r ∧ mlN D ns r ≤ 16 := by
  obtain ⟨m, h1, h2, h3, h4, h5⟩ := nm_in dy (od_s (M := D) hr).1
  unfold mlN
  rw [h4]
  exact ⟨h1, h2⟩
theorem SN_L (dy : dSy D ns) {r : Nat} (hr : r ≤ ns) : 1 ≤ (SN D ns r).2 ∧ (SN D ns r).2 ≤ 1 + 17 * r := sts_L (b := 16) (fun k hk => (mlN_in dy (by omega)).2)
def sGn (c j : Nat) : Prop := c = 21 ∨ (c = 20 ∧ j = 1) ∨ c = 31
theorem sGn_D : ∀ c j, (1 ≤ c ∧ c ≤ 8 ∨ 42 ≤ c ∧ c ≤ 61 ∨ c = 63 ∨ c = 64) → ¬ sGn c j := by unfold sGn; omega
theorem w_gather {post : gMem → Prop} (E : eqD D M) (dy : dSy D ns) (hb : rFb M) (o29 : ∀ r, r < ns → M 29 r = nI (od D ns r)) (H : ∀ M', fr sGn M M' → rFb M' → (∀ r, r < ns → M' 31 r = nI (plN D ns r)) → M' 20 1 = nI (SN D ns ns).2 → (∀ k, k < (SN D ns ns).2 → M' 21 k = (SN D ns ns).1 k) → post M') : wp_WR_gatherNames post M := by
  have hns := dy.1
  unfold wp_WR_gatherNames wp_ST_restart_n
  refine ⟨vp_in_nI (n := 0) (by omega) (by omega), fun M1 e1 M2 e2 => ?_⟩
  have b1 : rFb M1 := by rw [e1]; exact rFb_upd hb (by decide)
  have f2 : fr sGn M M2 := (show fr sGn M M1 by rw [e1]; exact fr_upd (Or.inl rfl)).trans (by rw [e2]; exact fr_upd (Or.inr (Or.inl ⟨rfl, rfl⟩)))
  refine pk_loop (fun k r M' => wl_WR_gatherNames_9 post k (nI r) M') (fun r M' => fr sGn M M' ∧ rFb M' ∧ (∀ q, q < r → M' 31 q = nI (plN D ns q)) ∧ M' 20 1 = nI (SN D ns r).2 ∧ ∀ k, k < (SN D ns r).2 → M' 21 k = (SN D ns r).1 k) ns 0 M2 (by omega) ⟨f2, upB e2 b1, fun q hq => by omega, u_at e2, fun k hk => ?_⟩ ?_ ?_
  · have hk' : k < 1 := hk
    have k0 : k = 0 := by omega
    subst k0
    rw [u_ne e2]
    exact u_at e1
  · rintro k M' ⟨h1, h2, h3, h4, h5⟩
    have E' := eqD_fr h1 sGn_D E
    unfold wl_WR_gatherNames_9
    rw [E' 1 7 (by omega), dy.2.1]
    exact q_le (fun _ => H M' h1 h2 h3 h4 h5) (fun c => by omega)
  · rintro k r M' hr ⟨h1, h2, h3, h4, h5⟩ K
    have E' := eqD_fr h1 sGn_D E
    have e17 : M' 1 7 = nI ns := (E' 1 7 (by omega)).trans dy.2.1
    have ho := od_s (M := D) hr
    obtain ⟨m, m1, m2, m3, m4, m5⟩ := nm_in dy ho.1
    have em : mlN D ns r = m := m4
    have hl := SN_L dy (show r ≤ ns by omega)
    unfold wl_WR_gatherNames_9
    rw [e17, nI_1, nI_clamp (by omega), h1 29 r (by unfold sGn; omega), o29 r hr]
    refine q_le (fun c => by omega) (fun _ => ⟨vp_in_nI (by omega) (by omega), q_x (w_fact (k := 5) e17 hns ho.1 (by omega) ?_)⟩)
    have e6 : M' 6 (6 * od D ns r + 5) = nI m := ((E' 6 _ (by omega)).trans (dy.2.2.2 _ ho.1).2.2.2.2.2.1).trans m3
    rw [e6, show nI (od D ns r) * (16 : Int32) = nI (od D ns r * 16) from pk_mul _ 16]
    refine w_place_n_7 (S := SN D ns r) (w := wfN D ns r) h2 h4 h5 (fun i hi => ?_) m1 (by omega) (by omega) (fun M3 f3 b3 g3 t3 => ⟨vp_in_nI (by omega) (by omega), fun M4 e4 => q_x ?_⟩)
    · rw [E' 7 _ (by omega), show od D ns r * 16 + i = 16 * od D ns r + i by omega]
      exact (m5 i hi).1
    · have f3' : fr sGn M' M3 := f3.mono fun c j q => by
        rcases q with q | q
        · exact Or.inl q
        · exact Or.inr (Or.inl q)
      have f4 : fr sGn M3 M4 := by rw [e4]; exact fr_upd (Or.inr (Or.inr rfl))
      rw [← em] at e4 g3 t3
      refine K M4 ⟨h1.trans (f3'.trans f4), upB e4 b3, fun q hq => ?_, by rw [u_ne e4, SN_s]; exact g3, fun k hk => by rw [SN_s] at hk ⊢; rw [u_ne e4]; exact t3 k hk⟩
      by_cases c : q = r
      · subst c; exact u_at e4
      · rw [u_ne e4, f3 31 q (by unfold sn_7; omega)]; exact h3 q (by omega)
def sNm (c j : Nat) : Prop := c = 68 ∨ c = 69 ∨ (c = 70 ∧ j < 100) ∨ (c = 41 ∧ (j = 30 ∨ j = 32))
theorem sNm_D : ∀ c j, (1 ≤ c ∧ c ≤ 8 ∨ 42 ≤ c ∧ c ≤ 61 ∨ c = 63 ∨ c = 64) → ¬ sNm c j := by unfold sNm; omega
def stM (S : (Nat → Int32) × Nat) (M : gMem) : Prop := M 41 30 = nI S.2 ∧ ∀ k, k < S.2 → M 68 k = S.1 k
theorem m_symNames {post : Int32 → gMem → Prop} (E : eqD D M) (dy : dSy D ns) (o71 : ∀ x, x < ns → M 71 x = nI (tn D ns x)) (H : ∀ M', fr sNm M M' → (∀ x, x < ns → M' 70 x = nI (plN D ns (tn D ns x))) → stM (SN D ns ns) M' → post (nI (SN D ns ns).2) M') : wp_MO_sizeOfSymbolNames post M := by
  have hns := dy.1
  unfold wp_MO_sizeOfSymbolNames wp_MO_begin
  refine ⟨vp_in_nI (n := 0) (by omega) (by omega), fun M1 e1 => ⟨vp_in_nI (n := 0) (by omega) (by omega), fun M2 e2 M3 e3 => ?_⟩⟩
  have f3 : fr sNm M M3 := (show fr sNm M M1 by rw [e1]; exact fr_upd (Or.inr (Or.inl rfl))).trans ((show fr sNm M1 M2 by rw [e2]; exact fr_upd (Or.inl rfl)).trans (by rw [e3]; exact fr_upd (Or.inr (Or.inr (Or.inr ⟨rfl, Or.inl rfl⟩)))))
  have s3 : stM (SN D ns 0) M3 := ⟨u_at e3, fun k hk => by
    have hk' : k < 1 := hk
    have k0 : k = 0 := by omega
    subst k0
    rw [u_ne e3]
    exact u_at e2⟩
  refine pk_loop (fun k r M' => wl_MO_sizeOfSymbolNames_6 post k (nI r) M') (fun r M' => fr sNm M M' ∧ (∀ x, x < ns → tn D ns x < r → M' 70 x = nI (plN D ns (tn D ns x))) ∧ stM (SN D ns r) M') ns 0 M3 (by omega) ⟨f3, fun x hx w => by omega, s3⟩ ?_ ?_
  · rintro k M' ⟨h1, h2, h3⟩
    have E' := eqD_fr h1 sNm_D E
    unfold wl_MO_sizeOfSymbolNames_6
    rw [cl_0, E' 54 0 (by omega), dy.2.2.1, h3.1]
    exact ⟨in_02, q_le (fun _ => H M' h1 (fun x hx => h2 x hx (tn_lt hx)) h3) (fun c => by omega)⟩
  · rintro k r M' hr ⟨h1, h2, h3⟩ K
    have E' := eqD_fr h1 sNm_D E
    have ho := od_s (M := D) hr
    unfold wl_MO_sizeOfSymbolNames_6
    rw [cl_0, E' 54 0 (by omega), dy.2.2.1]
    refine ⟨in_02, q_le (fun c => by omega) (fun _ => ?_)⟩
    have go : ∀ d x (N : gMem), x + d = ns → fr sNm M N → (∀ y, y < ns → (tn D ns y < r ∨ (tn D ns y = r ∧ y < x)) → N 70 y = nI (plN D ns (tn D ns y))) → stM (SN D ns (if od D ns r < x then r + 1 else r)) N → wl_MO_sizeOfSymbolNames_18 post (wl_MO_sizeOfSymbolNames_6 post k) (d + 1) (nI r) (nI x) N := by
      intro d
      induction d with
      | zero =>
        intro x N hx g1 g2 g3
        have EN := eqD_fr g1 sNm_D E
        have ex : x = ns := by omega
        subst ex
        rw [if_pos ho.1] at g3
        unfold wl_MO_sizeOfSymbolNames_18
        rw [cl_0, EN 54 0 (by omega), dy.2.2.1, nI_1]
        exact ⟨in_02, q_le (fun _ => q_x (K N ⟨g1, fun y hy w => g2 y hy (by omega), g3⟩)) (fun c => by omega)⟩
      | succ d ih =>
        intro x N hx g1 g2 g3
        have EN := eqD_fr g1 sNm_D E
        have tl' := tn_lt (M := D) (show x < ns by omega)
        unfold wl_MO_sizeOfSymbolNames_18
        rw [cl_0, EN 54 0 (by omega), dy.2.2.1, show nI x + (1 : Int32) = nI (x + 1) from nI_1 x, nI_clamp (by omega), g1 71 x (by unfold sNm; omega), o71 x (by omega), EN 52 x (by omega)]
        refine ⟨in_02, q_le (fun c => by omega) (fun _ => ⟨vp_in_nI (by omega) (by omega), q_eq (fun ct => ⟨vp_in_nI (by omega) (by omega), fun N4 e4 => ?_⟩) (fun ct => q_x ?_)⟩)⟩
        · have eo : od D ns r = x := by rw [← ct]; exact od_t (by omega)
          rw [eo, if_neg (by omega)] at g3
          obtain ⟨m, m1, m2, m3, m4, m5⟩ := nm_in dy (show x < ns by omega)
          have em : mlN D ns r = m := by unfold mlN; rw [eo]; exact m4
          have hl := SN_L dy (show r ≤ ns by omega)
          rw [m3] at e4
          have f4 : fr sNm N N4 := by rw [e4]; exact fr_upd (Or.inr (Or.inr (Or.inr ⟨rfl, Or.inr rfl⟩)))
          refine pk_loop (fun k2 i N' => wl_MO_sizeOfSymbolNames_53 post (wl_MO_sizeOfSymbolNames_6 post k) (wl_MO_sizeOfSymbolNames_18 post (wl_MO_sizeOfSymbolNames_6 post k) (d + 1)) k2 (nI r) (nI x) (nI i) N') (fun i N' => fr (fun c _ => c = 69) N4 N' ∧ ∀ j, j < i → N' 69 j = wfN D ns r j) m 0 N4 (by omega) ⟨fr.refl, fun j hj => by omega⟩ ?_ ?_
          · rintro k2 N5 ⟨p1, p2⟩
            have e32 : N5 41 32 = nI m := by rw [p1 41 32 (by omega)]; exact u_at e4
            unfold wl_MO_sizeOfSymbolNames_53
            rw [e32, nI_1]
            refine q_le (fun _ => ?_) (fun c => by omega)
            refine m_string (S := SN D ns r) (w := wfN D ns r) (m := m) (by rw [p1 41 30 (by omega), u_ne e4]; exact g3.1) e32 (fun q hq => by rw [p1 68 q (by omega), u_ne e4]; exact g3.2 q hq) p2 m1 m2 (by omega) hl.1 sts_0 ?_ (fun N6 f6 q6 t6 => ⟨vp_in_nI (by omega) (by omega), fun N7 e7 => q_x ?_⟩)
            · intro w
              have w' : D 53 (16 * od D ns r + 0) = 0 := w
              rw [eo] at w'
              have := (m5 0 (by omega)).2.1
              rw [w', Int32.toInt_zero] at this
              omega
            · rw [nI_clamp (by omega)] at e7
              have f5 : fr sNm N4 N5 := p1.mono fun c j q => Or.inr (Or.inl q)
              have f6' : fr sNm N5 N6 := f6.mono fun c j q => by
                rcases q with q | q
                · exact Or.inl q
                · exact Or.inr (Or.inr (Or.inr ⟨q.1, Or.inl q.2⟩))
              have f7 : fr sNm N6 N7 := by rw [e7]; exact fr_upd (Or.inr (Or.inr (Or.inl ⟨rfl, by omega⟩)))
              rw [← em] at e7 q6 t6
              refine ih (x + 1) N7 (by omega) (g1.trans (f4.trans (f5.trans (f6'.trans f7)))) (fun y hy w => ?_) ?_
              · by_cases cy : y = x
                · subst cy; rw [ct]; exact u_at e7
                · rw [u_ne e7, f6 70 y (by unfold s68; omega), p1 70 y (by omega), u_ne e4]
                  exact g2 y hy (by omega)
              · rw [eo, if_pos (by omega), SN_s]
                exact ⟨by rw [u_ne e7]; exact q6, fun q hq => by rw [u_ne e7]; exact t6 q hq⟩
          · rintro k2 i N5 hi ⟨p1, p2⟩ K2
            have e32 : N5 41 32 = nI m := by rw [p1 41 32 (by omega)]; exact u_at e4
            unfold wl_MO_sizeOfSymbolNames_53
            rw [e32, show nI i + (1 : Int32) = nI (i + 1) from nI_1 i, show (16 : Int32) * nI x + nI i = nI (16 * x + i) by rw [show (16 : Int32) = nI 16 from rfl, pk_mul, nI_add], nI_clamp (show i < 2 ^ 31 by omega), nI_clamp (show 16 * x + i < 2 ^ 31 by omega)]
            refine q_le (fun c => by omega) (fun _ => ⟨vp_in_nI (by omega) (by omega), vp_in_nI (by omega) (by omega), fun N6 e6 => q_x ?_⟩)
            refine K2 N6 ⟨p1.trans (by rw [e6]; exact fr_upd rfl), fun j hj => ?_⟩
            by_cases cj : j = i
            · subst cj
              rw [u_at e6, p1 53 _ (by omega), u_ne e4, EN 53 _ (by omega)]
              unfold wfN
              rw [eo]
            · rw [u_ne e6]; exact p2 j (by omega)
        · have eo : od D ns r ≠ x := fun w => ct (by rw [← w]; exact ho.2)
          refine ih (x + 1) N (by omega) g1 (fun y hy w => g2 y hy ?_) ?_
          · rcases w with w | w
            · exact Or.inl w
            · by_cases cy : y = x
              · rw [cy] at w; exact absurd w.1 ct
              · exact Or.inr ⟨w.1, by omega⟩
          · have : (if od D ns r < x + 1 then r + 1 else r) = (if od D ns r < x then r + 1 else r) := by
              by_cases c2 : od D ns r < x
              · rw [if_pos c2, if_pos (by omega)]
              · rw [if_neg c2, if_neg (by omega)]
            rw [this]; exact g3
    refine ⟨ns + 1, go ns 0 M' (by omega) h1 (fun y hy w => h2 y hy (by omega)) ?_⟩
    rw [if_neg (by omega)]
    exact h3
end
