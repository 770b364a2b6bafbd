/-! read, both -/
section
def sRd (c j : Nat) : Prop := (32 ≤ c ∧ c ≤ 39) ∨ sF c j ∨ sM c j ∨ sG c j
def sRf (c j : Nat) : Prop := (32 ≤ c ∧ c ≤ 39) ∨ sM c j
theorem sRf_O (cb o : Nat) (hcb : 1 ≤ cb) (hc2 : cb ≤ 9) : ∀ c j, fpO cb o c j → ¬ sRf c j := by
  intro c j q
  unfold fpO at q
  unfold sRf sM
  rcases q with q | q | q | q | q
  · unfold fpZ at q; omega
  · unfold fpD at q; omega
  · unfold fpT at q; omega
  · unfold fpY at q; omega
  · unfold fpE at q; omega
theorem sRd_O : ∀ c j, fpO 1 0 c j → ¬ sRd c j := by
  intro c j q
  unfold fpO at q
  unfold sRd sM sF sG
  rcases q with q | q | q | q | q
  · unfold fpZ at q; omega
  · unfold fpD at q; omega
  · unfold fpT at q; omega
  · unfold fpY at q; omega
  · unfold fpE at q; omega
theorem fb_n {S : Nat → Nat → Prop} (h : ∀ c j, (c = 2 ∨ c = 7 ∨ c = 10 ∨ c = 15 ∨ c = 18 ∨ c = 21 ∨ c = 23 ∨ c = 24 ∨ c = 40) → ¬ S c j) : ∀ c, c ∈ [2, 7, 10, 15, 18, 21, 23, 24, 40] → ∀ j, ¬ S c j := by
  intro c hc j
  refine h c j ?_
  simp only [List.mem_cons, List.not_mem_nil, or_false] at hc
  omega
theorem inv_rf {M M' : gMem} (hf : fr sRf M M') (h : pInv M) (h5 : rPl M') : pInv M' := by
  have hn := inv_n1 h
  obtain ⟨i1, i2, i3, i4, i5, i6, i7, i8⟩ := h
  exact ⟨rOb_fr hf (sRf_O 1 0 (by omega) (by omega)) i1, rOb_fr hf (sRf_O 9 1 (by omega) (by omega)) i2, rFi_fr hf (by unfold sRf sM; omega) (by unfold sRf sM; omega) (by unfold sRf sM; omega) (by unfold sRf sM; omega) i3, rDr_fr hf (by unfold sRf sM; omega) (by unfold sRf sM; omega) (by unfold sRf sM; omega) (by unfold sRf sM; omega) i4, h5, rFb_fr hf (fb_n (by unfold sRf sM; omega)) i6, rTi_fr hf (by unfold sRf sM; omega) (by unfold sRf sM; omega) i7, rIn_fr hf (by unfold sRf sM; omega) (by unfold sRf sM; omega) (by unfold sRf sM; omega) hn i8⟩
theorem inv_rd {M M' : gMem} (hf : fr sRd M M') (h : pInv M) (h2 : rOb 9 1 M') (h5 : rPl M') (h6 : rFb M') (h8 : rIn M') : pInv M' := by
  obtain ⟨i1, i2, i3, i4, i5, i6, i7, i8⟩ := h
  exact ⟨rOb_fr hf sRd_O i1, h2, rFi_fr hf (by unfold sRd sM sF sG; omega) (by unfold sRd sM sF sG; omega) (by unfold sRd sM sF sG; omega) (by unfold sRd sM sF sG; omega) i3, rDr_fr hf (by unfold sRd sM sF sG; omega) (by unfold sRd sM sF sG; omega) (by unfold sRd sM sF sG; omega) (by unfold sRd sM sF sG; omega) i4, h5, h6, rTi_fr hf (by unfold sRd sM sF sG; omega) (by unfold sRd sM sF sG; omega) i7, h8⟩
theorem c_read {M : gMem} (h : pInv M) : wp_OF_read (fun r M1 => wp_MO_read (fun r' M2 => r = r' ∧ pInv M2) M1) M := by
  obtain ⟨n, hn, w1, w2, w3⟩ := h.2.2.1
  unfold wp_OF_read
  intro M1 e1
  have V0 := rV_of hn w1 w2 w3
  generalize fB n M = b at V0
  have f1 : fr sC M M1 := by rw [e1]; exact fr_upd ⟨by omega, by omega⟩
  have V1 := rV_C f1 V0
  have p1 : M1 32 0 = (-1 : Int32) := u_at e1
  have R := h.2.2.2.2.2.2.1
  have xb : (xD n b).1 < 64 := sq_b (sq_b xMk_b xH3_b) (sq_b (sq_b (fs_b fun j a1 a2 => by unfold yZ; split <;> simp) (fs_b fun j a1 a2 => yE_lt)) (sq_b (sq_b (yS_b (by omega)) xLb_b) (sq_b xNu_b (sq_b yMi_b (sq_b xLe_b (yS_b (by omega)))))))
  refine k_dir V1 (fun M3 c3 d3 => q_ne (b := 0) (fun z => ?_) (fun z => ?_))
  · refine q_ne (b := 0) (fun _ => ?_) (fun w => absurd w z)
    have f3 : fr sC M M3 := f1.trans c3.1
    have V3 := rV_C f3 V0
    have R3 : rTi M3 := rTi_fr f3 (by unfold sC; omega) (by unfold sC; omega) R
    unfold wp_MO_read
    refine m_dir V3 R3 (fun _ M4 r4 => q_f (by intro w; exact z ((nI_eq (by omega) (by omega)).mp w)) ⟨rfl, inv_rf (f3.mono (fun c j q => Or.inl q) |>.trans (r4.1.mono fun c j q => Or.inr q)) h ?_⟩) (fun w => absurd w z)
    show M4 32 0 = M4 41 23
    rw [r4.2 z, r4.1 32 0 (by unfold sM; omega)]
    exact c3.2.2 z
  · have D := d3 z
    have z2 : (xD2 n b (v4 b 32).1 (v2 b 48).1 (v2 b 50).1).1 = 0 := (sq_0 z).2
    have zH : (xHd n b).1 = 0 := (sq_0 z).1
    have ok := hd_ok zH
    have gd := gD_of z2
    have zL : (xLb b (v4 b 32).1 (v2 b 48).1 (v2 b 50).1).1 = 0 := (sq_0 (sq_0 (sq_0 z2).2).1).2
    have F := pF_of ⟨by omega, by omega⟩ gd zL
    have gQ := gd.2.2.1
    generalize hT : (v4 b 32).1 = T at D gd F gQ ok
    generalize hE : (v2 b 48).1 = E at D gd F gQ ok
    generalize hN : (v2 b 50).1 = N at D gd F gQ ok
    have X3 : kX n b T E N (qp b T N) (Bp b T E N) (Wp b T E N) (Gp b T E N) M3 := ⟨D.1, D.2.1, F, gQ, fun p hp => ⟨(D.2.2 p hp).1, (D.2.2 p hp).2.1⟩⟩
    have h38 : ∀ p, p < 4 → M3 38 p = nI (Gp b T E N p) := fun p hp => (D.2.2 p (by omega)).2.2
    have xfb : (xF b T E (qp b T N) (Bp b T E N) (Wp b T E N)).1 < 64 := sq_b xSy_b (sq_b xR_b xT_b)
    have f3 : fr sC M M3 := f1.trans c3.1
    have p3 : M3 32 0 = (-1 : Int32) := (c3.2.1 z).trans p1
    refine k_faults X3 (fun M7 f7 a7 b7 => ?_)
    have f7' : fr sC M M7 := f3.trans (f7.mono fun c j q => (by unfold s39 at q; unfold sC; omega))
    refine q_ne (b := 0) (fun z3 => ?_) (fun z3 => ?_)
    · have V7 := rV_C f7' V0
      have R7 : rTi M7 := rTi_fr f7' (by unfold sC; omega) (by unfold sC; omega) R
      unfold wp_MO_read
      refine m_dir V7 R7 (fun w => absurd z w) (fun _ M8 f8 s8 l8 => ?_)
      rw [hT, hE, hN] at s8
      rw [hT, hE, hN] at l8
      have X8 : mX n b T E N (qp b T N) (Bp b T E N) (Wp b T E N) (Gp b T E N) M8 := ⟨s8, l8, F, gQ, fun p => ⟨rfl, rfl⟩⟩
      refine m_faults X8 (fun _ M9 f9 e9 => q_f (by intro w; exact z3 ((nI_eq (by omega) (by omega)).mp w)) ⟨rfl, inv_rf ((f7'.mono (fun c j q => Or.inl q)).trans ((f8.mono fun c j q => Or.inr q).trans (f9.mono fun c j q => Or.inr (by unfold sT at q; unfold sM; omega)))) h ?_⟩) (fun w => absurd w z3)
      show M9 32 0 = M9 41 23
      rw [e9, f9 32 0 (by unfold sT; omega), f8 32 0 (by unfold sM; omega)]
      exact b7 z3
    · have X7 := kX_fr f7 X3
      have h38' : ∀ p, p < 4 → M7 38 p = nI (Gp b T E N p) := fun p hp => by rw [f7 38 p (by unfold s39; omega)]; exact h38 p hp
      have rb7 : rFb M7 := rFb_fr f7' (fb_n (by unfold sC; omega)) h.2.2.2.2.2.1
      have hv : ∀ y, 1 ≤ y → y < Wp b T E N 8 / 16 → vn b (Bp b T E N) (Wp b T E N) y := fun y y1 y2 => (ySy_0 (fz_sym z3 y y1 y2)).1
      refine k_fill X7 h38' rb7 hv (fun M10 f10 b10 c1 c2 c3' c4 c5 => ?_)
      have V10 : rV n b M10 := rV_fr f10 (by unfold sF; omega) (by unfold sF; omega) (by unfold sF; omega) (by unfold sF; omega) (rV_C f7' V0)
      have R10 : rTi M10 := rTi_fr f10 (by unfold sF; omega) (by unfold sF; omega) (rTi_fr f7' (by unfold sC; omega) (by unfold sC; omega) R)
      unfold wp_MO_read
      refine m_dir V10 R10 (fun w => absurd z w) (fun _ M11 f11 s11 l11 => ?_)
      rw [hT, hE, hN] at s11
      rw [hT, hE, hN] at l11
      have X11 : mX n b T E N (qp b T N) (Bp b T E N) (Wp b T E N) (Gp b T E N) M11 := ⟨s11, l11, F, gQ, fun p => ⟨rfl, rfl⟩⟩
      refine m_faults X11 (fun w => absurd z3 w) (fun _ => q_t rfl (fun M12 e12 => ?_))
      have f12 : fr sT M11 M12 := by rw [e12]; exact fr_upd ⟨rfl, rfl⟩
      have X12 := mX_T f12 X11
      refine m_fill X12 (fun p _ => rfl) hv (fun M13 f13 m1 m2 m3 m4 m5 m6 m7 => ⟨by rw [z3]; rfl, ?_⟩)
      have cls : ∀ c j, c ≤ 40 → M13 c j = M10 c j := fun c j hc => by rw [f13 c j (by unfold sG; omega), f12 c j (by unfold sT; omega), f11 c j (by unfold sM; omega)]
      have V13 : rV n b M13 := rV_fr f13 (by unfold sG; omega) (by unfold sG; omega) (by unfold sG; omega) (by unfold sG; omega) X12.1.1
      have b13 : rFb M13 := by
        intro c hc k
        rw [cls c k (by simp only [List.mem_cons, List.not_mem_nil, or_false] at hc; omega)]
        exact b10 c hc k
      have c1' : zC (Wp b T E N) (Gp b T E N) 4 M13 := fun s hs => by rw [cls 11 s (by omega), cls 12 s (by omega)]; exact c1 s hs
      have c2' : yC (Bp b T E N) (Wp b T E N) 3 M13 := fun s hs k hk => by rw [cls 10 _ (by omega), cls 18 _ (by omega)]; exact c2 s hs k hk
      have c3'' : tC b (Bp b T E N) (Wp b T E N 4 / 2) M13 := ⟨by rw [cls 9 4 (by omega)]; exact c3'.1, fun k hk => by rw [cls 13 k (by omega)]; exact c3'.2 k hk⟩
      have c4' : uC b (qp b T N) E (Bp b T E N) (Wp b T E N 8 / 16 - 1) M13 := ⟨by rw [cls 9 7 (by omega)]; exact c4.1, fun x hx => by
        obtain ⟨u1, u2, u3, u4, u5, u6, u7⟩ := c4.2 x hx
        exact ⟨by rw [cls 14 _ (by omega)]; exact u1, by rw [cls 14 _ (by omega)]; exact u2, by rw [cls 14 _ (by omega)]; exact u3, by rw [cls 14 _ (by omega)]; exact u4, by rw [cls 14 _ (by omega)]; exact u5, by rw [cls 14 _ (by omega)]; exact u6, fun i hi => by rw [cls 15 _ (by omega), cls 18 _ (by omega)]; exact u7 i hi⟩⟩
      have c5' : eC b (Bp b T E N) (Wp b T E N) (pre (Wp b T E N) 3) M13 := ⟨by rw [cls 9 9 (by omega)]; exact c5.1, fun r hr => by
        obtain ⟨u1, u2, u3, u4, u5⟩ := c5.2 r hr
        exact ⟨by rw [cls 16 _ (by omega)]; exact u1, by rw [cls 16 _ (by omega)]; exact u2, by rw [cls 16 _ (by omega)]; exact u3, by rw [cls 16 _ (by omega)]; exact u4, by rw [cls 16 _ (by omega)]; exact u5⟩⟩
      have ob := ob_read (T := T) F V13 b13 (fun x _ => whc_le) z3 c1' c2' c3'' c4' c5' m1 m2 m3 m4 m5 m6 m7
      have fa : fr sRd M M7 := f7'.mono fun c j q => Or.inl q
      have fb : fr sRd M7 M10 := f10.mono fun c j q => Or.inr (Or.inl q)
      have fc : fr sRd M10 M11 := f11.mono fun c j q => Or.inr (Or.inr (Or.inl q))
      have fd : fr sRd M11 M12 := f12.mono fun c j q => Or.inr (Or.inr (Or.inl (by unfold sT at q; unfold sM; omega)))
      have fe : fr sRd M12 M13 := f13.mono fun c j q => Or.inr (Or.inr (Or.inr q))
      refine inv_rd (fa.trans (fb.trans (fc.trans (fd.trans fe)))) h ob.1 ?_ b13 ob.2
      show M13 32 0 = M13 41 23
      rw [cls 32 0 (by omega), f10 32 0 (by unfold sF; omega), f13 41 23 (by unfold sG; omega), u_at e12, a7 z3]
      exact p3
end
