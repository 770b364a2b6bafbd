/-! frames: M' is M but at the places S -/
def fr (S : Nat → Nat → Prop) (M M' : gMem) : Prop := ∀ c j, ¬ S c j → M' c j = M c j
theorem fr.refl {S : Nat → Nat → Prop} {M : gMem} : fr S M M := fun _ _ _ => rfl
theorem fr.trans {S : Nat → Nat → Prop} {M M1 M2 : gMem} (h1 : fr S M M1) (h2 : fr S M1 M2) : fr S M M2 := fun c j h => (h2 c j h).trans (h1 c j h)
theorem fr.mono {S T : Nat → Nat → Prop} {M M' : gMem} (h : fr S M M') (hs : ∀ c j, S c j → T c j) : fr T M M' := fun c j hn => h c j (fun q => hn (hs c j q))
/-- one cell -/
theorem fr_up {S : Nat → Nat → Prop} {M : gMem} {c : Nat} {f : Nat → Int32} (h : ∀ j, ¬ S c j → f j = M c j) : fr S M (va_up M c f) := by
  intro d j hn
  by_cases hd : d = c
  · subst hd
    rw [up_same]
    exact h j hn
  · rw [up_ne hd]
theorem fr_upd {S : Nat → Nat → Prop} {M : gMem} {c i : Nat} {x : Int32} (h : S c i) : fr S M (va_up M c (upd (M c) i x)) := fr_up (fun j hn => by
  unfold upd
  rw [if_neg]
  intro e
  subst e
  exact hn h)
theorem fr_cpy {S : Nat → Nat → Prop} {M : gMem} {c s sp dp n : Nat} (h : ∀ j, dp ≤ j → j < dp + n → S c j) : fr S M (va_up M c (va_cpy (M s) (M c) sp dp n)) := fr_up (fun j hn => by
  unfold va_cpy
  rw [if_neg]
  intro e
  exact hn (h j e.1 e.2))
/-- what the parts of an object's relation look at -/
def fpZ (cb o c j : Nat) : Prop := ((c = cb + 2 ∨ c = cb + 3) ∧ j < 4) ∨ ((c = 43 ∨ c = 44) ∧ 4 * o ≤ j ∧ j < 4 * o + 4)
def fpD (cb o c j : Nat) : Prop := c = cb + 1 ∨ (c = 42 ∧ 6144 * o ≤ j ∧ j < 6144 * o + 6144) ∨ (c = 43 ∧ 4 * o ≤ j ∧ j < 4 * o + 3)
def fpT (cb o c j : Nat) : Prop := (c = cb ∧ j = 4) ∨ (c = 46 ∧ j = o) ∨ c = cb + 4 ∨ (c = 45 ∧ 1024 * o ≤ j ∧ j < 1024 * o + 1024)
def fpY (cb o c j : Nat) : Prop := (c = cb ∧ j = 7) ∨ (c = 54 ∧ j = o) ∨ c = cb + 5 ∨ c = cb + 6 ∨ (47 ≤ c ∧ c ≤ 52 ∧ 100 * o ≤ j ∧ j < 100 * o + 100) ∨ (c = 53 ∧ 1600 * o ≤ j ∧ j < 1600 * o + 1600)
def fpE (cb o c j : Nat) : Prop := (c = cb ∧ j = 9) ∨ (c = 60 ∧ j = o) ∨ (c = 54 ∧ j = o) ∨ c = cb + 7 ∨ (55 ≤ c ∧ c ≤ 59 ∧ 300 * o ≤ j ∧ j < 300 * o + 300)
theorem rSz_e {cb o : Nat} {M M' : gMem} (e : ∀ c j, fpZ cb o c j → M' c j = M c j) (h : rSz cb o M) : rSz cb o M' := by
  intro s hs
  rw [e (cb + 2) s (Or.inl ⟨Or.inl rfl, hs⟩), e (cb + 3) s (Or.inl ⟨Or.inr rfl, hs⟩), e 43 (4 * o + s) (Or.inr ⟨Or.inl rfl, by omega, by omega⟩), e 44 (4 * o + s) (Or.inr ⟨Or.inr rfl, by omega, by omega⟩)]
  exact h s hs
theorem rBy_e {cb o : Nat} {M M' : gMem} (e : ∀ c j, fpD cb o c j → M' c j = M c j) (hz : rSz cb o M) (h : rBy cb o M) : rBy cb o M' := by
  intro s k hs hk
  rw [e 43 (4 * o + s) (Or.inr (Or.inr ⟨rfl, by omega, by omega⟩))] at hk
  have h2 := (hz s (by omega)).2.2.1
  rw [if_neg (by omega)] at h2
  rw [e (cb + 1) _ (Or.inl rfl), e 42 (6144 * o + 2048 * s + k) (Or.inr (Or.inl ⟨rfl, by omega, by omega⟩))]
  exact h s k hs hk
theorem rSt_e {cb o : Nat} {M M' : gMem} (e : ∀ c j, fpT cb o c j → M' c j = M c j) (h : rSt cb o M) : rSt cb o M' := by
  obtain ⟨n, hn, h1, h2, h3, h4⟩ := h
  refine ⟨n, hn, by rw [e cb 4 (Or.inl ⟨rfl, rfl⟩)]; exact h1, by rw [e 46 o (Or.inr (Or.inl ⟨rfl, rfl⟩))]; exact h2, fun k hk => ?_, fun k hk => ?_⟩
  · rw [e (cb + 4) k (Or.inr (Or.inr (Or.inl rfl))), e 45 (1024 * o + k) (Or.inr (Or.inr (Or.inr ⟨rfl, by omega, by omega⟩)))]
    exact h3 k hk
  · rw [e 45 (1024 * o + k) (Or.inr (Or.inr (Or.inr ⟨rfl, by omega, by omega⟩))), e 45 (1024 * o + (k + 1)) (Or.inr (Or.inr (Or.inr ⟨rfl, by omega, by omega⟩)))]
    exact h4 k hk
theorem fpYa {cb o j : Nat} : fpY cb o (cb + 5) j := Or.inr (Or.inr (Or.inl rfl))
theorem fpYb {cb o j : Nat} : fpY cb o (cb + 6) j := Or.inr (Or.inr (Or.inr (Or.inl rfl)))
theorem fpYc {cb o k : Nat} (c : Nat) (h1 : 47 ≤ c) (h2 : c ≤ 52) (h : k < 100) : fpY cb o c (100 * o + k) := Or.inr (Or.inr (Or.inr (Or.inr (Or.inl ⟨h1, h2, by omega, by omega⟩))))
theorem fpYd {cb o k : Nat} (h1 : 1600 * o ≤ k) (h2 : k < 1600 * o + 1600) : fpY cb o 53 k := Or.inr (Or.inr (Or.inr (Or.inr (Or.inr ⟨rfl, h1, h2⟩))))
theorem rSy1_e {cb o x : Nat} {M M' : gMem} (hx : x < 100) (e : ∀ c j, fpY cb o c j → M' c j = M c j) (h : rSy1 cb o x M) : rSy1 cb o x M' := by
  unfold rSy1 at h ⊢
  rw [e (cb + 5) (6 * x) fpYa, e (cb + 5) (6 * x + 1) fpYa, e (cb + 5) (6 * x + 2) fpYa, e (cb + 5) (6 * x + 3) fpYa, e (cb + 5) (6 * x + 4) fpYa, e (cb + 5) (6 * x + 5) fpYa, e 47 _ (fpYc 47 (by omega) (by omega) hx), e 48 _ (fpYc 48 (by omega) (by omega) hx), e 49 _ (fpYc 49 (by omega) (by omega) hx), e 50 _ (fpYc 50 (by omega) (by omega) hx), e 51 _ (fpYc 51 (by omega) (by omega) hx), e 52 _ (fpYc 52 (by omega) (by omega) hx)]
  refine ⟨h.1, h.2.1, h.2.2.1, h.2.2.2.1, h.2.2.2.2.1, h.2.2.2.2.2.1, h.2.2.2.2.2.2.1, fun i hi => ?_⟩
  have hok := h.2.2.2.2.2.2.1.2.2.2.2.2.2.2.1
  rw [e (cb + 6) _ fpYb, e 53 _ (fpYd (by omega) (by omega))]
  exact h.2.2.2.2.2.2.2 i hi
theorem rSy_e {cb o : Nat} {M M' : gMem} (e : ∀ c j, fpY cb o c j → M' c j = M c j) (h : rSy cb o M) : rSy cb o M' := by
  obtain ⟨n, hn, h1, h2, h3⟩ := h
  exact ⟨n, hn, by rw [e cb 7 (Or.inl ⟨rfl, rfl⟩)]; exact h1, by rw [e 54 o (Or.inr (Or.inl ⟨rfl, rfl⟩))]; exact h2, fun x hx => rSy1_e (by omega) e (h3 x hx)⟩
theorem fpEa {cb o j : Nat} : fpE cb o (cb + 7) j := Or.inr (Or.inr (Or.inr (Or.inl rfl)))
theorem fpEb {cb o k : Nat} (c : Nat) (h1 : 55 ≤ c) (h2 : c ≤ 59) (h : k < 300) : fpE cb o c (300 * o + k) := Or.inr (Or.inr (Or.inr (Or.inr ⟨h1, h2, by omega, by omega⟩)))
theorem rRe1_e {cb o x : Nat} {M M' : gMem} (hx : x < 300) (e : ∀ c j, fpE cb o c j → M' c j = M c j) (h : rRe1 cb o x M) : rRe1 cb o x M' := by
  unfold rRe1 at h ⊢
  rw [e (cb + 7) (5 * x) fpEa, e (cb + 7) (5 * x + 1) fpEa, e (cb + 7) (5 * x + 2) fpEa, e (cb + 7) (5 * x + 3) fpEa, e (cb + 7) (5 * x + 4) fpEa, e 55 _ (fpEb 55 (by omega) (by omega) hx), e 56 _ (fpEb 56 (by omega) (by omega) hx), e 57 _ (fpEb 57 (by omega) (by omega) hx), e 58 _ (fpEb 58 (by omega) (by omega) hx), e 59 _ (fpEb 59 (by omega) (by omega) hx), e 54 o (Or.inr (Or.inr (Or.inl ⟨rfl, rfl⟩)))]
  exact h
theorem rRe_e {cb o : Nat} {M M' : gMem} (e : ∀ c j, fpE cb o c j → M' c j = M c j) (h : rRe cb o M) : rRe cb o M' := by
  obtain ⟨n, hn, h1, h2, h3⟩ := h
  exact ⟨n, hn, by rw [e cb 9 (Or.inl ⟨rfl, rfl⟩)]; exact h1, by rw [e 60 o (Or.inr (Or.inl ⟨rfl, rfl⟩))]; exact h2, fun x hx => rRe1_e (by omega) e (h3 x hx)⟩
theorem fr.e {S F : Nat → Nat → Prop} {M M' : gMem} (hf : fr S M M') (hd : ∀ c j, F c j → ¬ S c j) : ∀ c j, F c j → M' c j = M c j := fun c j q => hf c j (hd c j q)
def fpO (cb o c j : Nat) : Prop := fpZ cb o c j ∨ fpD cb o c j ∨ fpT cb o c j ∨ fpY cb o c j ∨ fpE cb o c j
theorem rOb_fr {cb o : Nat} {S : Nat → Nat → Prop} {M M' : gMem} (hf : fr S M M') (hd : ∀ c j, fpO cb o c j → ¬ S c j) (h : rOb cb o M) : rOb cb o M' :=
  ⟨rSz_e (hf.e fun c j q => hd c j (Or.inl q)) h.1, rBy_e (hf.e fun c j q => hd c j (Or.inr (Or.inl q))) h.1 h.2.1, rSt_e (hf.e fun c j q => hd c j (Or.inr (Or.inr (Or.inl q)))) h.2.2.1, rSy_e (hf.e fun c j q => hd c j (Or.inr (Or.inr (Or.inr (Or.inl q))))) h.2.2.2.1, rRe_e (hf.e fun c j q => hd c j (Or.inr (Or.inr (Or.inr (Or.inr q))))) h.2.2.2.2⟩
theorem rFi_fr {S : Nat → Nat → Prop} {M M' : gMem} (hf : fr S M M') (h1 : ¬ S 17 1) (h2 : ¬ S 41 22) (h3 : ∀ j, ¬ S 18 j) (h4 : ∀ j, ¬ S 62 j) (h : rFi M) : rFi M' := by
  obtain ⟨n, hn, a1, a2, a3⟩ := h
  exact ⟨n, hn, by rw [hf _ _ h1]; exact a1, by rw [hf _ _ h2]; exact a2, fun k hk => by rw [hf _ _ (h3 k), hf _ _ (h4 k)]; exact a3 k hk⟩
theorem rDr_fr {S : Nat → Nat → Prop} {M M' : gMem} (hf : fr S M M') (h1 : ¬ S 0 8) (h2 : ¬ S 41 20) (h3 : ∀ j, ¬ S 40 j) (h4 : ∀ j, ¬ S 61 j) (h : rDr M) : rDr M' := by
  obtain ⟨n, hn, a1, a2, a3⟩ := h
  exact ⟨n, hn, by rw [hf _ _ h1]; exact a1, by rw [hf _ _ h2]; exact a2, fun k hk => by rw [hf _ _ (h3 k), hf _ _ (h4 k)]; exact a3 k hk⟩
theorem rPl_fr {S : Nat → Nat → Prop} {M M' : gMem} (hf : fr S M M') (h1 : ¬ S 32 0) (h2 : ¬ S 41 23) (h : rPl M) : rPl M' := by
  unfold rPl at h ⊢
  rw [hf _ _ h1, hf _ _ h2]
  exact h
theorem rTi_fr {S : Nat → Nat → Prop} {M M' : gMem} (hf : fr S M M') (h1 : ∀ j, ¬ S 63 j) (h2 : ∀ j, ¬ S 64 j) (h : rTi M) : rTi M' := ⟨fun k hk => by rw [hf _ _ (h1 k)]; exact h.1 k hk, fun t ht => by rw [hf _ _ (h2 t)]; exact h.2 t ht⟩
theorem rFb_fr {S : Nat → Nat → Prop} {M M' : gMem} (hf : fr S M M') (h1 : ∀ c, c ∈ [2, 7, 10, 15, 18, 21, 23, 24, 40] → ∀ j, ¬ S c j) (h : rFb M) : rFb M' := fun c hc k => by rw [hf _ _ (h1 c hc k)]; exact h c hc k
/-- byte cells stay bytes when bytes are put in -/
theorem rFb_upd {M : gMem} {c i : Nat} {x : Int32} (h : rFb M) (hx : fits .byte (.int x) = true) : rFb (va_up M c (upd (M c) i x)) := by
  intro d hd k
  by_cases hdc : d = c
  · subst hdc
    rw [up_same]
    unfold upd
    split
    · exact hx
    · exact h d hd k
  · rw [up_ne hdc]
    exact h d hd k
theorem rFb_cpy {M : gMem} {c s sp dp n : Nat} (h : rFb M) (hs : ∀ i, i < n → fits .byte (.int (M s (sp + i))) = true) : rFb (va_up M c (va_cpy (M s) (M c) sp dp n)) := by
  intro d hd k
  by_cases hdc : d = c
  · subst hdc
    rw [up_same]
    unfold va_cpy
    split
    · exact hs _ (by omega)
    · exact h d hd k
  · rw [up_ne hdc]
    exact h d hd k
theorem rFb_up {M : gMem} {c : Nat} {f : Nat → Int32} (h : rFb M) (hc : c ∉ [2, 7, 10, 15, 18, 21, 23, 24, 40]) : rFb (va_up M c f) := by
  intro d hd k
  have hne : d ≠ c := fun e => hc (by rw [← e]; exact hd)
  rw [up_ne hne]
  exact h d hd k
theorem rIn_fr {S : Nat → Nat → Prop} {M M' : gMem} (hf : fr S M M') (h1 : ¬ S 46 1) (h2 : ¬ S 43 4) (h3 : ∀ k, k < 1024 → ¬ S 45 (1024 + k)) (hn : (M 46 1).toInt ≤ 1024) (h : rIn M) : rIn M' := by
  intro k hk
  rw [hf _ _ h1] at hk
  rw [hf _ _ h2, hf _ _ (h3 k (by omega))]
  exact h k hk
theorem inv_n1 {M : gMem} (h : pInv M) : (M 46 1).toInt ≤ 1024 := by
  obtain ⟨n, hn, -, h2, -⟩ := h.2.1.2.2.1
  rw [h2, ti_nI (by omega)]
  omega
/-- only the made object's cells (and the reference's for it) -/
def sMade (c j : Nat) : Prop := (1 ≤ c ∧ c ≤ 8) ∨ (c = 42 ∧ j < 6144) ∨ ((c = 43 ∨ c = 44) ∧ j < 4) ∨ (c = 45 ∧ j < 1024) ∨ (c = 46 ∧ j = 0) ∨ (47 ≤ c ∧ c ≤ 52 ∧ j < 100) ∨ (c = 53 ∧ j < 1600) ∨ (c = 54 ∧ j = 0) ∨ (55 ≤ c ∧ c ≤ 59 ∧ j < 300) ∨ (c = 60 ∧ j = 0)
theorem sMade_9 : ∀ c j, fpO 9 1 c j → ¬ sMade c j := by
  intro c j q
  unfold fpO at q
  unfold sMade
  rcases q with q | q | q | q | q
  · unfold fpZ at q; omega
  · unfold fpD at q; omega
  · unfold fpT at q; omega
  · unfold fpY at q; omega
  · unfold fpE at q; omega
theorem inv_made {M M' : gMem} (hf : fr sMade M M') (h : pInv M) (h1 : rOb 1 0 M') (h6 : rFb M') : pInv M' := by
  have hn := inv_n1 h
  obtain ⟨i1, i2, i3, i4, i5, i6, i7, i8⟩ := h
  exact ⟨h1, rOb_fr hf sMade_9 i2, rFi_fr hf (by unfold sMade; omega) (by unfold sMade; omega) (by unfold sMade; omega) (by unfold sMade; omega) i3, rDr_fr hf (by unfold sMade; omega) (by unfold sMade; omega) (by unfold sMade; omega) (by unfold sMade; omega) i4, rPl_fr hf (by unfold sMade; omega) (by unfold sMade; omega) i5, h6, rTi_fr hf (by unfold sMade; omega) (by unfold sMade; omega) i7, rIn_fr hf (by unfold sMade; omega) (by unfold sMade; omega) (by unfold sMade; omega) hn i8⟩
/-- only the draft's -/
def sDr (c j : Nat) : Prop := (c = 0 ∧ j = 8) ∨ c = 40 ∨ (c = 41 ∧ j = 20) ∨ c = 61
theorem sDr_O (cb o : Nat) (hcb : 1 ≤ cb) (hc2 : cb ≤ 9) : ∀ c j, fpO cb o c j → ¬ sDr c j := by
  intro c j q
  unfold fpO at q
  unfold sDr
  rcases q with q | q | q | q | q
  · unfold fpZ at q; omega
  · unfold fpD at q; omega
  · unfold fpT at q; omega
  · unfold fpY at q; omega
  · unfold fpE at q; omega
theorem inv_draft {M M' : gMem} (hf : fr sDr M M') (h : pInv M) (h4 : rDr M') (h6 : rFb M') : pInv M' := by
  have hn := inv_n1 h
  obtain ⟨i1, i2, i3, i4, i5, i6, i7, i8⟩ := h
  exact ⟨rOb_fr hf (sDr_O 1 0 (by omega) (by omega)) i1, rOb_fr hf (sDr_O 9 1 (by omega) (by omega)) i2, rFi_fr hf (by unfold sDr; omega) (by unfold sDr; omega) (by unfold sDr; omega) (by unfold sDr; omega) i3, h4, rPl_fr hf (by unfold sDr; omega) (by unfold sDr; omega) i5, h6, rTi_fr hf (by unfold sDr; omega) (by unfold sDr; omega) i7, rIn_fr hf (by unfold sDr; omega) (by unfold sDr; omega) (by unfold sDr; omega) hn i8⟩
/-- only the file's -/
def sFi (c j : Nat) : Prop := (c = 17 ∧ j = 1) ∨ c = 18 ∨ (c = 41 ∧ j = 22) ∨ c = 62
theorem sFi_O (cb o : Nat) (hcb : 1 ≤ cb) (hc2 : cb ≤ 9) : ∀ c j, fpO cb o c j → ¬ sFi c j := by
  intro c j q
  unfold fpO at q
  unfold sFi
  rcases q with q | q | q | q | q
  · unfold fpZ at q; omega
  · unfold fpD at q; omega
  · unfold fpT at q; omega
  · unfold fpY at q; omega
  · unfold fpE at q; omega
theorem inv_file {M M' : gMem} (hf : fr sFi M M') (h : pInv M) (h3 : rFi M') (h6 : rFb M') : pInv M' := by
  have hn := inv_n1 h
  obtain ⟨i1, i2, i3, i4, i5, i6, i7, i8⟩ := h
  exact ⟨rOb_fr hf (sFi_O 1 0 (by omega) (by omega)) i1, rOb_fr hf (sFi_O 9 1 (by omega) (by omega)) i2, h3, rDr_fr hf (by unfold sFi; omega) (by unfold sFi; omega) (by unfold sFi; omega) (by unfold sFi; omega) i4, rPl_fr hf (by unfold sFi; omega) (by unfold sFi; omega) i5, h6, rTi_fr hf (by unfold sFi; omega) (by unfold sFi; omega) i7, rIn_fr hf (by unfold sFi; omega) (by unfold sFi; omega) (by unfold sFi; omega) hn i8⟩
