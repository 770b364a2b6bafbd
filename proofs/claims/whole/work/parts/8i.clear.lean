/-! clear and keep -/
section
variable {M : gMem}
def sMD (c j : Nat) : Prop := sMade c j ∨ sDr c j
theorem md1 {c j : Nat} (h : 1 ≤ c ∧ c ≤ 8) : sMade c j := Or.inl h
theorem md2 {c j : Nat} (h : c = 42 ∧ j < 6144) : sMade c j := Or.inr (Or.inl h)
theorem md3 {c j : Nat} (h : (c = 43 ∨ c = 44) ∧ j < 4) : sMade c j := Or.inr (Or.inr (Or.inl h))
theorem md4 {c j : Nat} (h : c = 45 ∧ j < 1024) : sMade c j := Or.inr (Or.inr (Or.inr (Or.inl h)))
theorem md5 {c j : Nat} (h : c = 46 ∧ j = 0) : sMade c j := Or.inr (Or.inr (Or.inr (Or.inr (Or.inl h))))
theorem md6 {c j : Nat} (h : 47 ≤ c ∧ c ≤ 52 ∧ j < 100) : sMade c j := Or.inr (Or.inr (Or.inr (Or.inr (Or.inr (Or.inl h)))))
theorem md7 {c j : Nat} (h : c = 53 ∧ j < 1600) : sMade c j := Or.inr (Or.inr (Or.inr (Or.inr (Or.inr (Or.inr (Or.inl h))))))
theorem md8 {c j : Nat} (h : c = 54 ∧ j = 0) : sMade c j := Or.inr (Or.inr (Or.inr (Or.inr (Or.inr (Or.inr (Or.inr (Or.inl h)))))))
theorem md9 {c j : Nat} (h : 55 ≤ c ∧ c ≤ 59 ∧ j < 300) : sMade c j := Or.inr (Or.inr (Or.inr (Or.inr (Or.inr (Or.inr (Or.inr (Or.inr (Or.inl h))))))))
theorem mdA {c j : Nat} (h : c = 60 ∧ j = 0) : sMade c j := Or.inr (Or.inr (Or.inr (Or.inr (Or.inr (Or.inr (Or.inr (Or.inr (Or.inr h))))))))
theorem mdD {c j : Nat} (h : c = 41 ∧ j = 20) : sMD c j := Or.inr (Or.inr (Or.inr (Or.inl h)))
theorem sMD_9 : ∀ c j, fpO 9 1 c j → ¬ sMD c j := fun c j q w => w.elim (sMade_9 c j q) (sDr_O 9 1 (by omega) (by omega) c j q)
theorem inv_md {M M' : gMem} (hf : fr sMD M M') (h : pInv M) (h1 : rOb 1 0 M') (h4 : rDr M') (h6 : rFb M') : pInv M' := by
  have hn := inv_n1 h
  obtain ⟨i1, i2, i3, i4, i5, i6, i7, i8⟩ := h
  exact ⟨h1, rOb_fr hf sMD_9 i2, rFi_fr hf (by unfold sMD sMade sDr; omega) (by unfold sMD sMade sDr; omega) (by unfold sMD sMade sDr; omega) (by unfold sMD sMade sDr; omega) i3, h4, rPl_fr hf (by unfold sMD sMade sDr; omega) (by unfold sMD sMade sDr; omega) i5, h6, rTi_fr hf (by unfold sMD sMade sDr; omega) (by unfold sMD sMade sDr; omega) i7, rIn_fr hf (by unfold sMD sMade sDr; omega) (by unfold sMD sMade sDr; omega) (by unfold sMD sMade sDr; omega) hn i8⟩
theorem k_f3 {post : gMem → Prop} {v : Int32} (hb : rFb M) (H : ∀ M', fr (fun c _ => c = 3) M M' → rFb M' → (∀ j, j < 4 → M' 3 j = v) → post M') : wp_AR_fill1_3 post v M := by
  refine pk_loop (fun k i M' => wl_AR_fill1_3_5 post k v (nI i) (4 : Int32) M') (fun i M' => fr (fun c _ => c = 3) M M' ∧ rFb M' ∧ ∀ j, j < i → M' 3 j = v) 4 0 M (by omega) ⟨fr.refl, hb, fun j hj => by omega⟩ ?_ ?_
  · rintro k M' ⟨h1, h2, h3⟩
    unfold wl_AR_fill1_3_5
    exact q_le (a := 4) (fun _ => H M' h1 h2 h3) (fun c => by omega)
  · rintro k i M' hi ⟨h1, h2, h3⟩ K
    unfold wl_AR_fill1_3_5
    refine q_le (a := 4) (fun c => by omega) (fun _ => ⟨vp_in_nI (by omega) (by omega), fun M1 e1 => q_x ?_⟩)
    rw [nI_clamp (by omega)] at e1
    rw [nI_1]
    refine K M1 ⟨h1.trans (e1 ▸ fr_upd rfl), upB e1 h2, fun j hj => ?_⟩
    by_cases c : j = i
    · subst c; exact u_at e1
    · rw [u_ne e1]; exact h3 j (by omega)
theorem k_f4 {post : gMem → Prop} {v : Int32} (hb : rFb M) (H : ∀ M', fr (fun c _ => c = 4) M M' → rFb M' → (∀ j, j < 4 → M' 4 j = v) → post M') : wp_AR_fill1_4 post v M := by
  refine pk_loop (fun k i M' => wl_AR_fill1_4_5 post k v (nI i) (4 : Int32) M') (fun i M' => fr (fun c _ => c = 4) M M' ∧ rFb M' ∧ ∀ j, j < i → M' 4 j = v) 4 0 M (by omega) ⟨fr.refl, hb, fun j hj => by omega⟩ ?_ ?_
  · rintro k M' ⟨h1, h2, h3⟩
    unfold wl_AR_fill1_4_5
    exact q_le (a := 4) (fun _ => H M' h1 h2 h3) (fun c => by omega)
  · rintro k i M' hi ⟨h1, h2, h3⟩ K
    unfold wl_AR_fill1_4_5
    refine q_le (a := 4) (fun c => by omega) (fun _ => ⟨vp_in_nI (by omega) (by omega), fun M1 e1 => q_x ?_⟩)
    rw [nI_clamp (by omega)] at e1
    rw [nI_1]
    refine K M1 ⟨h1.trans (e1 ▸ fr_upd rfl), upB e1 h2, fun j hj => ?_⟩
    by_cases c : j = i
    · subst c; exact u_at e1
    · rw [u_ne e1]; exact h3 j (by omega)
theorem in_02 : vp_in (0 : Int32) 2 := by unfold vp_in; decide
theorem ob_0 {M : gMem} {cb o : Nat} (h3 : ∀ j, j < 4 → M (cb + 2) j = 0) (h4 : ∀ j, j < 4 → M (cb + 3) j = 1) (g3 : ∀ j, j < 4 → M 43 (4 * o + j) = 0) (g4 : ∀ j, j < 4 → M 44 (4 * o + j) = 1) (a1 : M cb 4 = 0) (a2 : M cb 7 = 0) (a3 : M cb 9 = 0) (b1 : M 46 o = 0) (b2 : M 54 o = 0) (b3 : M 60 o = 0) : rOb cb o M := by
  refine ⟨fun s hs => ?_, fun s k hs hk => ?_, ⟨0, by omega, a1, b1, fun k hk => by omega, fun k hk => by omega⟩, ⟨0, by omega, a2, b2, fun x hx => by omega⟩, ⟨0, by omega, a3, b3, fun x hx => by omega⟩⟩
  · rw [h3 s hs, h4 s hs, g3 s hs, g4 s hs]
    refine ⟨rfl, by decide, ?_, rfl, Or.inl rfl⟩
    rw [Int32.toInt_zero]
    split <;> omega
  · rw [g3 s (by omega), Int32.toInt_zero] at hk; omega
theorem c_clear {M : gMem} (h : pInv M) : wp_OF_clear (fun M1 => wp_MO_clear (fun M2 => pInv M2) M1) M := by
  unfold wp_OF_clear wp_CT_reset_m
  refine k_f3 h.2.2.2.2.2.1 (fun M2 f2 b2 g2 => k_f4 b2 (fun M4 f4 b4 g4 M5 e5 M6 e6 M7 e7 M8 e8 => ?_))
  have fA : fr sMD M M8 := by
    refine (f2.mono (fun c j q => Or.inl (md1 (by omega)))).trans ((f4.mono (fun c j q => Or.inl (md1 (by omega)))).trans ?_)
    refine (show fr sMD M4 M5 by rw [e5]; exact fr_upd (Or.inl (md1 (by omega)))).trans ?_
    refine (show fr sMD M5 M6 by rw [e6]; exact fr_upd (Or.inl (md1 (by omega)))).trans ?_
    refine (show fr sMD M6 M7 by rw [e7]; exact fr_upd (Or.inl (md1 (by omega)))).trans ?_
    rw [e8]; exact fr_upd (Or.inr (by unfold sDr; omega))
  have b8 : rFb M8 := upB e8 (upB e7 (upB e6 (upB e5 b4)))
  have c3 : ∀ j, j < 4 → M8 3 j = 0 := fun j hj => by rw [u_ne e8, u_ne e7, u_ne e6, u_ne e5, f4 3 j (by omega)]; exact g2 j hj
  have c4 : ∀ j, j < 4 → M8 4 j = 1 := fun j hj => by rw [u_ne e8, u_ne e7, u_ne e6, u_ne e5]; exact g4 j hj
  have c5 : M8 1 4 = 0 := by rw [u_ne e8, u_ne e7, u_ne e6]; exact u_at e5
  have c6 : M8 1 7 = 0 := by rw [u_ne e8, u_ne e7]; exact u_at e6
  have c7 : M8 1 9 = 0 := by rw [u_ne e8]; exact u_at e7
  have c8 : M8 0 8 = 0 := u_at e8
  unfold wp_MO_clear
  refine pk_loop (fun k i M' => wl_MO_clear_2 _ k (nI i) M') (fun i M' => fr (fun c j => (c = 43 ∨ c = 44) ∧ j < 4) M8 M' ∧ ∀ j, j < i → M' 43 j = 0 ∧ M' 44 j = 1) 4 0 M8 (by omega) ⟨fr.refl, fun j hj => by omega⟩ ?_ ?_
  · rintro k M' ⟨h1, h2⟩
    unfold wl_MO_clear_2
    refine q_le (a := 4) (fun _ => ⟨in_02, fun Ma ea => ⟨in_02, fun Mb eb => ⟨in_02, fun Mc ec => fun Md ed => ?_⟩⟩⟩) (fun c => by omega)
    rw [cl_0] at ea eb ec
    have cls : ∀ c j, c ≤ 40 → Md c j = M8 c j := fun c j hc => by rw [u_ne ed, u_ne ec, u_ne eb, u_ne ea, h1 c j (by omega)]
    have fB : fr sMD M8 Md := by
      refine (h1.mono (fun c j q => Or.inl (md3 q))).trans ?_
      refine (show fr sMD M' Ma by rw [ea]; exact fr_upd (Or.inl (md5 ⟨rfl, rfl⟩))).trans ?_
      refine (show fr sMD Ma Mb by rw [eb]; exact fr_upd (Or.inl (md8 ⟨rfl, rfl⟩))).trans ?_
      refine (show fr sMD Mb Mc by rw [ec]; exact fr_upd (Or.inl (mdA ⟨rfl, rfl⟩))).trans ?_
      rw [ed]; exact fr_upd (Or.inr (by unfold sDr; omega))
    refine inv_md (fA.trans fB) h (ob_0 (fun j hj => by rw [cls _ _ (by omega)]; exact c3 j hj) (fun j hj => by rw [cls _ _ (by omega)]; exact c4 j hj) (fun j hj => ?_) (fun j hj => ?_) (by rw [cls _ _ (by omega)]; exact c5) (by rw [cls _ _ (by omega)]; exact c6) (by rw [cls _ _ (by omega)]; exact c7) ?_ ?_ ?_) ⟨0, by omega, by rw [cls _ _ (by omega)]; exact c8, u_at ed, fun k hk => by omega⟩ ?_
    · rw [show 4 * 0 + j = j by omega, u_ne ed, u_ne ec, u_ne eb, u_ne ea]; exact (h2 j hj).1
    · rw [show 4 * 0 + j = j by omega, u_ne ed, u_ne ec, u_ne eb, u_ne ea]; exact (h2 j hj).2
    · rw [u_ne ed, u_ne ec, u_ne eb]; exact u_at ea
    · rw [u_ne ed, u_ne ec]; exact u_at eb
    · rw [u_ne ed]; exact u_at ec
    · intro c hc k
      rw [cls c k (by simp only [List.mem_cons, List.not_mem_nil, or_false] at hc; omega)]
      exact b8 c hc k
  · rintro k i M' hi ⟨h1, h2⟩ K
    unfold wl_MO_clear_2
    refine q_le (a := 4) (fun c => by omega) (fun _ => ⟨vp_in_nI (by omega) (by omega), fun Ma ea => ⟨vp_in_nI (by omega) (by omega), fun Mb eb => q_x ?_⟩⟩)
    rw [nI_clamp (by omega)] at ea eb
    rw [nI_1]
    have fa : fr (fun c j => (c = 43 ∨ c = 44) ∧ j < 4) M' Ma := by rw [ea]; exact fr_upd ⟨Or.inl rfl, hi⟩
    have fb : fr (fun c j => (c = 43 ∨ c = 44) ∧ j < 4) Ma Mb := by rw [eb]; exact fr_upd ⟨Or.inr rfl, hi⟩
    refine K Mb ⟨h1.trans (fa.trans fb), fun j hj => ?_⟩
    by_cases c : j = i
    · subst c
      rw [u_ne eb]
      exact ⟨u_at ea, u_at eb⟩
    · rw [u_ne eb, u_ne ea, u_ne eb, u_ne ea]; exact h2 j (by omega)
theorem rOb_shift {M M' : gMem} (h : rOb 9 1 M) (e1 : ∀ j, j < 6144 → M' 2 j = M 10 j) (e2 : ∀ j, j < 4 → M' 3 j = M 11 j) (e3 : ∀ j, j < 4 → M' 4 j = M 12 j) (e4 : ∀ j, j < 1024 → M' 5 j = M 13 j) (e5 : ∀ j, j < 600 → M' 6 j = M 14 j) (e6 : ∀ j, j < 1600 → M' 7 j = M 15 j) (e7 : ∀ j, j < 1500 → M' 8 j = M 16 j) (f4 : M' 1 4 = M 9 4) (f7 : M' 1 7 = M 9 7) (f9 : M' 1 9 = M 9 9)
    (g2 : ∀ j, j < 6144 → M' 42 j = M 42 (6144 + j)) (g3 : ∀ j, j < 4 → M' 43 j = M 43 (4 + j)) (g4 : ∀ j, j < 4 → M' 44 j = M 44 (4 + j)) (g5 : ∀ j, j < 1024 → M' 45 j = M 45 (1024 + j)) (g6 : M' 46 0 = M 46 1) (g7 : ∀ c j, 47 ≤ c → c ≤ 52 → j < 100 → M' c j = M c (100 + j)) (g8 : ∀ j, j < 1600 → M' 53 j = M 53 (1600 + j)) (g9 : M' 54 0 = M 54 1) (ga : ∀ c j, 55 ≤ c → c ≤ 59 → j < 300 → M' c j = M c (300 + j)) (gb : M' 60 0 = M 60 1) : rOb 1 0 M' := by
  obtain ⟨z, y, ⟨nt, t0, t1, t2, t3, t4⟩, ⟨nu, u0, u1, u2, u3⟩, ⟨ne, v0, v1, v2, v3⟩⟩ := h
  refine ⟨fun s hs => ?_, fun s k hs hk => ?_, ⟨nt, t0, f4.trans t1, g6.trans t2, fun k hk => ?_, fun k hk => ?_⟩, ⟨nu, u0, f7.trans u1, g9.trans u2, fun x hx => ?_⟩, ⟨ne, v0, f9.trans v1, gb.trans v2, fun x hx => ?_⟩⟩
  · have := z s hs
    rw [show 4 * 0 + s = s by omega, g3 s hs, g4 s hs, show M' (1 + 2) s = M 11 s from e2 s hs, show M' (1 + 3) s = M 12 s from e3 s hs]
    exact this
  · rw [show 4 * 0 + s = s by omega, g3 s (by omega)] at hk
    have hz := (z s (by omega)).2.2.1
    rw [if_neg (by omega), show 4 * 1 + s = 4 + s by omega] at hz
    have := y s k hs hk
    rw [show 6144 * 0 + 2048 * s + k = 2048 * s + k by omega, g2 _ (by omega), show M' (1 + 1) (2048 * s + k) = M 10 (2048 * s + k) from e1 _ (by omega), show 6144 + (2048 * s + k) = 6144 * 1 + 2048 * s + k by omega]
    exact this
  · have := t3 k hk
    rw [show 1024 * 0 + k = k by omega, g5 k (by omega), show M' (1 + 4) k = M 13 k from e4 k (by omega)]
    exact this
  · have := t4 k hk
    rw [show 1024 * 0 + k = k by omega, show 1024 * 0 + (k + 1) = k + 1 by omega, g5 k (by omega), g5 (k + 1) (by omega)]
    exact this
  · have := u3 x hx
    unfold rSy1 at this ⊢
    rw [show 100 * 0 + x = x by omega]
    rw [show 100 * 1 + x = 100 + x by omega] at this
    rw [g7 47 x (by omega) (by omega) (by omega), g7 48 x (by omega) (by omega) (by omega), g7 49 x (by omega) (by omega) (by omega), g7 50 x (by omega) (by omega) (by omega), g7 51 x (by omega) (by omega) (by omega), g7 52 x (by omega) (by omega) (by omega)]
    rw [show M' (1 + 5) (6 * x) = M 14 (6 * x) from e5 _ (by omega), show M' (1 + 5) (6 * x + 1) = M 14 (6 * x + 1) from e5 _ (by omega), show M' (1 + 5) (6 * x + 2) = M 14 (6 * x + 2) from e5 _ (by omega), show M' (1 + 5) (6 * x + 3) = M 14 (6 * x + 3) from e5 _ (by omega), show M' (1 + 5) (6 * x + 4) = M 14 (6 * x + 4) from e5 _ (by omega), show M' (1 + 5) (6 * x + 5) = M 14 (6 * x + 5) from e5 _ (by omega)]
    refine ⟨this.1, this.2.1, this.2.2.1, this.2.2.2.1, this.2.2.2.2.1, this.2.2.2.2.2.1, this.2.2.2.2.2.2.1, fun i hi => ?_⟩
    have ok := this.2.2.2.2.2.2.1.2.2.2.2.2.2.2.1
    have := this.2.2.2.2.2.2.2 i hi
    rw [show M' (1 + 6) (16 * x + i) = M 15 (16 * x + i) from e6 _ (by omega), g8 _ (by omega), show 1600 + (16 * x + i) = 16 * (100 + x) + i by omega]
    exact this
  · have := v3 x hx
    unfold rRe1 at this ⊢
    rw [show 300 * 0 + x = x by omega]
    rw [show 300 * 1 + x = 300 + x by omega] at this
    rw [ga 55 x (by omega) (by omega) (by omega), ga 56 x (by omega) (by omega) (by omega), ga 57 x (by omega) (by omega) (by omega), ga 58 x (by omega) (by omega) (by omega), ga 59 x (by omega) (by omega) (by omega), g9]
    rw [show M' (1 + 7) (5 * x) = M 16 (5 * x) from e7 _ (by omega), show M' (1 + 7) (5 * x + 1) = M 16 (5 * x + 1) from e7 _ (by omega), show M' (1 + 7) (5 * x + 2) = M 16 (5 * x + 2) from e7 _ (by omega), show M' (1 + 7) (5 * x + 3) = M 16 (5 * x + 3) from e7 _ (by omega), show M' (1 + 7) (5 * x + 4) = M 16 (5 * x + 4) from e7 _ (by omega)]
    exact this
theorem kp2 {post : gMem → Prop} (H : ∀ M', fr (fun c j => (c = 42) ∧ j < 6144) M M' → (∀ j, j < 6144 → M' 42 j = M 42 (6144 + j)) → ∃ n9 : Nat, wl_MO_keep_33 post n9 (0 : Int32) M') : ∃ n9, wl_MO_keep_2 post n9 (0 : Int32) M := by
  refine pk_loop (fun k i M' => wl_MO_keep_2 post k (nI i) M') (fun i M' => fr (fun c j => (c = 42) ∧ j < 6144) M M' ∧ ∀ j, j < i → M' 42 j = M 42 (6144 + j)) 6144 0 M (by omega) ⟨fr.refl, fun j hj => by omega⟩ ?_ ?_
  · rintro k M' ⟨h1, h2⟩
    unfold wl_MO_keep_2
    refine q_le (a := 6144) (fun _ => ?_) (fun c => by omega)
    exact H M' h1 h2
  · rintro k i M' hi ⟨h1, h2⟩ K
    unfold wl_MO_keep_2
    have va : vp_in (nI (6144 + i)) 12288 := vp_in_nI (by omega) (by omega)
    have vb : vp_in (nI i) 12288 := vp_in_nI (by omega) (by omega)
    rw [show (6144 : Int32) + nI i = nI (6144 + i) from nI_add 6144 i, nI_clamp (show i < 2 ^ 31 by omega), nI_clamp (show 6144 + i < 2 ^ 31 by omega)]
    refine q_le (a := 6144) (fun c => by omega) (fun _ => ⟨va, vb, fun M1 e1 => q_x ?_⟩)
    rw [nI_1]
    have f1 : fr (fun c j => (c = 42) ∧ j < 6144) M' M1 := by rw [e1]; exact fr_upd ⟨by omega, hi⟩
    refine K M1 ⟨h1.trans f1, fun j hj => ?_⟩
    by_cases c : j = i
    · subst c
      exact (by rw [u_at e1]; exact h1 _ _ (by omega))
    · exact (by rw [u_ne e1]; exact h2 j (by omega))
theorem kp33 {post : gMem → Prop} (H : ∀ M', fr (fun c j => (c = 43 ∨ c = 44) ∧ j < 4) M M' → (∀ j, j < 4 → M' 43 j = M 43 (4 + j) ∧ M' 44 j = M 44 (4 + j)) → ∃ n9 : Nat, wl_MO_keep_74 post n9 (0 : Int32) M') : ∃ n9, wl_MO_keep_33 post n9 (0 : Int32) M := by
  refine pk_loop (fun k i M' => wl_MO_keep_33 post k (nI i) M') (fun i M' => fr (fun c j => (c = 43 ∨ c = 44) ∧ j < 4) M M' ∧ ∀ j, j < i → M' 43 j = M 43 (4 + j) ∧ M' 44 j = M 44 (4 + j)) 4 0 M (by omega) ⟨fr.refl, fun j hj => by omega⟩ ?_ ?_
  · rintro k M' ⟨h1, h2⟩
    unfold wl_MO_keep_33
    refine q_le (a := 4) (fun _ => ?_) (fun c => by omega)
    exact H M' h1 h2
  · rintro k i M' hi ⟨h1, h2⟩ K
    unfold wl_MO_keep_33
    have va : vp_in (nI (4 + i)) 8 := vp_in_nI (by omega) (by omega)
    have vb : vp_in (nI i) 8 := vp_in_nI (by omega) (by omega)
    rw [show (4 : Int32) + nI i = nI (4 + i) from nI_add 4 i, nI_clamp (show i < 2 ^ 31 by omega), nI_clamp (show 4 + i < 2 ^ 31 by omega)]
    refine q_le (a := 4) (fun c => by omega) (fun _ => ⟨va, vb, fun M1 e1 => ⟨va, vb, fun M2 e2 => q_x ?_⟩⟩)
    rw [nI_1]
    have f1 : fr (fun c j => (c = 43 ∨ c = 44) ∧ j < 4) M' M1 := by rw [e1]; exact fr_upd ⟨by omega, hi⟩
    have f2 : fr (fun c j => (c = 43 ∨ c = 44) ∧ j < 4) M1 M2 := by rw [e2]; exact fr_upd ⟨by omega, hi⟩
    refine K M2 ⟨h1.trans (f1.trans f2), fun j hj => ?_⟩
    by_cases c : j = i
    · subst c
      exact ⟨(by rw [u_ne e2, u_at e1]; exact h1 _ _ (by omega)), (by rw [u_at e2, u_ne e1]; exact h1 _ _ (by omega))⟩
    · exact ⟨(by rw [u_ne e2, u_ne e1]; exact (h2 j (by omega)).1), (by rw [u_ne e2, u_ne e1]; exact (h2 j (by omega)).2)⟩
theorem kp74 {post : gMem → Prop} (H : ∀ M', fr (fun c j => (c = 45) ∧ j < 1024) M M' → (∀ j, j < 1024 → M' 45 j = M 45 (1024 + j)) → ∃ n9 : Nat, wl_MO_keep_105 post n9 (0 : Int32) M') : ∃ n9, wl_MO_keep_74 post n9 (0 : Int32) M := by
  refine pk_loop (fun k i M' => wl_MO_keep_74 post k (nI i) M') (fun i M' => fr (fun c j => (c = 45) ∧ j < 1024) M M' ∧ ∀ j, j < i → M' 45 j = M 45 (1024 + j)) 1024 0 M (by omega) ⟨fr.refl, fun j hj => by omega⟩ ?_ ?_
  · rintro k M' ⟨h1, h2⟩
    unfold wl_MO_keep_74
    refine q_le (a := 1024) (fun _ => ?_) (fun c => by omega)
    exact H M' h1 h2
  · rintro k i M' hi ⟨h1, h2⟩ K
    unfold wl_MO_keep_74
    have va : vp_in (nI (1024 + i)) 2048 := vp_in_nI (by omega) (by omega)
    have vb : vp_in (nI i) 2048 := vp_in_nI (by omega) (by omega)
    rw [show (1024 : Int32) + nI i = nI (1024 + i) from nI_add 1024 i, nI_clamp (show i < 2 ^ 31 by omega), nI_clamp (show 1024 + i < 2 ^ 31 by omega)]
    refine q_le (a := 1024) (fun c => by omega) (fun _ => ⟨va, vb, fun M1 e1 => q_x ?_⟩)
    rw [nI_1]
    have f1 : fr (fun c j => (c = 45) ∧ j < 1024) M' M1 := by rw [e1]; exact fr_upd ⟨by omega, hi⟩
    refine K M1 ⟨h1.trans f1, fun j hj => ?_⟩
    by_cases c : j = i
    · subst c
      exact (by rw [u_at e1]; exact h1 _ _ (by omega))
    · exact (by rw [u_ne e1]; exact h2 j (by omega))
theorem kp105 {post : gMem → Prop} (H : ∀ M', fr (fun c j => (c = 47 ∨ c = 48 ∨ c = 49 ∨ c = 50 ∨ c = 51 ∨ c = 52) ∧ j < 100) M M' → (∀ j, j < 100 → M' 47 j = M 47 (100 + j) ∧ M' 48 j = M 48 (100 + j) ∧ M' 49 j = M 49 (100 + j) ∧ M' 50 j = M 50 (100 + j) ∧ M' 51 j = M 51 (100 + j) ∧ M' 52 j = M 52 (100 + j)) → ∃ n9 : Nat, wl_MO_keep_209 post n9 (0 : Int32) M') : ∃ n9, wl_MO_keep_105 post n9 (0 : Int32) M := by
  refine pk_loop (fun k i M' => wl_MO_keep_105 post k (nI i) M') (fun i M' => fr (fun c j => (c = 47 ∨ c = 48 ∨ c = 49 ∨ c = 50 ∨ c = 51 ∨ c = 52) ∧ j < 100) M M' ∧ ∀ j, j < i → M' 47 j = M 47 (100 + j) ∧ M' 48 j = M 48 (100 + j) ∧ M' 49 j = M 49 (100 + j) ∧ M' 50 j = M 50 (100 + j) ∧ M' 51 j = M 51 (100 + j) ∧ M' 52 j = M 52 (100 + j)) 100 0 M (by omega) ⟨fr.refl, fun j hj => by omega⟩ ?_ ?_
  · rintro k M' ⟨h1, h2⟩
    unfold wl_MO_keep_105
    refine q_le (a := 100) (fun _ => ?_) (fun c => by omega)
    exact H M' h1 h2
  · rintro k i M' hi ⟨h1, h2⟩ K
    unfold wl_MO_keep_105
    have va : vp_in (nI (100 + i)) 200 := vp_in_nI (by omega) (by omega)
    have vb : vp_in (nI i) 200 := vp_in_nI (by omega) (by omega)
    rw [show (100 : Int32) + nI i = nI (100 + i) from nI_add 100 i, nI_clamp (show i < 2 ^ 31 by omega), nI_clamp (show 100 + i < 2 ^ 31 by omega)]
    refine q_le (a := 100) (fun c => by omega) (fun _ => ⟨va, vb, fun M1 e1 => ⟨va, vb, fun M2 e2 => ⟨va, vb, fun M3 e3 => ⟨va, vb, fun M4 e4 => ⟨va, vb, fun M5 e5 => ⟨va, vb, fun M6 e6 => q_x ?_⟩⟩⟩⟩⟩⟩)
    rw [nI_1]
    have f1 : fr (fun c j => (c = 47 ∨ c = 48 ∨ c = 49 ∨ c = 50 ∨ c = 51 ∨ c = 52) ∧ j < 100) M' M1 := by rw [e1]; exact fr_upd ⟨by omega, hi⟩
    have f2 : fr (fun c j => (c = 47 ∨ c = 48 ∨ c = 49 ∨ c = 50 ∨ c = 51 ∨ c = 52) ∧ j < 100) M1 M2 := by rw [e2]; exact fr_upd ⟨by omega, hi⟩
    have f3 : fr (fun c j => (c = 47 ∨ c = 48 ∨ c = 49 ∨ c = 50 ∨ c = 51 ∨ c = 52) ∧ j < 100) M2 M3 := by rw [e3]; exact fr_upd ⟨by omega, hi⟩
    have f4 : fr (fun c j => (c = 47 ∨ c = 48 ∨ c = 49 ∨ c = 50 ∨ c = 51 ∨ c = 52) ∧ j < 100) M3 M4 := by rw [e4]; exact fr_upd ⟨by omega, hi⟩
    have f5 : fr (fun c j => (c = 47 ∨ c = 48 ∨ c = 49 ∨ c = 50 ∨ c = 51 ∨ c = 52) ∧ j < 100) M4 M5 := by rw [e5]; exact fr_upd ⟨by omega, hi⟩
    have f6 : fr (fun c j => (c = 47 ∨ c = 48 ∨ c = 49 ∨ c = 50 ∨ c = 51 ∨ c = 52) ∧ j < 100) M5 M6 := by rw [e6]; exact fr_upd ⟨by omega, hi⟩
    refine K M6 ⟨h1.trans (f1.trans (f2.trans (f3.trans (f4.trans (f5.trans f6))))), fun j hj => ?_⟩
    by_cases c : j = i
    · subst c
      exact ⟨(by rw [u_ne e6, u_ne e5, u_ne e4, u_ne e3, u_ne e2, u_at e1]; exact h1 _ _ (by omega)), (by rw [u_ne e6, u_ne e5, u_ne e4, u_ne e3, u_at e2, u_ne e1]; exact h1 _ _ (by omega)), (by rw [u_ne e6, u_ne e5, u_ne e4, u_at e3, u_ne e2, u_ne e1]; exact h1 _ _ (by omega)), (by rw [u_ne e6, u_ne e5, u_at e4, u_ne e3, u_ne e2, u_ne e1]; exact h1 _ _ (by omega)), (by rw [u_ne e6, u_at e5, u_ne e4, u_ne e3, u_ne e2, u_ne e1]; exact h1 _ _ (by omega)), (by rw [u_at e6, u_ne e5, u_ne e4, u_ne e3, u_ne e2, u_ne e1]; exact h1 _ _ (by omega))⟩
    · exact ⟨(by rw [u_ne e6, u_ne e5, u_ne e4, u_ne e3, u_ne e2, u_ne e1]; exact (h2 j (by omega)).1), (by rw [u_ne e6, u_ne e5, u_ne e4, u_ne e3, u_ne e2, u_ne e1]; exact (h2 j (by omega)).2.1), (by rw [u_ne e6, u_ne e5, u_ne e4, u_ne e3, u_ne e2, u_ne e1]; exact (h2 j (by omega)).2.2.1), (by rw [u_ne e6, u_ne e5, u_ne e4, u_ne e3, u_ne e2, u_ne e1]; exact (h2 j (by omega)).2.2.2.1), (by rw [u_ne e6, u_ne e5, u_ne e4, u_ne e3, u_ne e2, u_ne e1]; exact (h2 j (by omega)).2.2.2.2.1), (by rw [u_ne e6, u_ne e5, u_ne e4, u_ne e3, u_ne e2, u_ne e1]; exact (h2 j (by omega)).2.2.2.2.2)⟩
theorem kp209 {post : gMem → Prop} (H : ∀ M', fr (fun c j => (c = 53) ∧ j < 1600) M M' → (∀ j, j < 1600 → M' 53 j = M 53 (1600 + j)) → ∃ n9 : Nat, wl_MO_keep_240 post n9 (0 : Int32) M') : ∃ n9, wl_MO_keep_209 post n9 (0 : Int32) M := by
  refine pk_loop (fun k i M' => wl_MO_keep_209 post k (nI i) M') (fun i M' => fr (fun c j => (c = 53) ∧ j < 1600) M M' ∧ ∀ j, j < i → M' 53 j = M 53 (1600 + j)) 1600 0 M (by omega) ⟨fr.refl, fun j hj => by omega⟩ ?_ ?_
  · rintro k M' ⟨h1, h2⟩
    unfold wl_MO_keep_209
    refine q_le (a := 1600) (fun _ => ?_) (fun c => by omega)
    exact H M' h1 h2
  · rintro k i M' hi ⟨h1, h2⟩ K
    unfold wl_MO_keep_209
    have va : vp_in (nI (1600 + i)) 3200 := vp_in_nI (by omega) (by omega)
    have vb : vp_in (nI i) 3200 := vp_in_nI (by omega) (by omega)
    rw [show (1600 : Int32) + nI i = nI (1600 + i) from nI_add 1600 i, nI_clamp (show i < 2 ^ 31 by omega), nI_clamp (show 1600 + i < 2 ^ 31 by omega)]
    refine q_le (a := 1600) (fun c => by omega) (fun _ => ⟨va, vb, fun M1 e1 => q_x ?_⟩)
    rw [nI_1]
    have f1 : fr (fun c j => (c = 53) ∧ j < 1600) M' M1 := by rw [e1]; exact fr_upd ⟨by omega, hi⟩
    refine K M1 ⟨h1.trans f1, fun j hj => ?_⟩
    by_cases c : j = i
    · subst c
      exact (by rw [u_at e1]; exact h1 _ _ (by omega))
    · exact (by rw [u_ne e1]; exact h2 j (by omega))
theorem kp240 {post : gMem → Prop} (H : ∀ M', fr (fun c j => (c = 55 ∨ c = 56 ∨ c = 57 ∨ c = 58 ∨ c = 59) ∧ j < 300) M M' → (∀ j, j < 300 → M' 55 j = M 55 (300 + j) ∧ M' 56 j = M 56 (300 + j) ∧ M' 57 j = M 57 (300 + j) ∧ M' 58 j = M 58 (300 + j) ∧ M' 59 j = M 59 (300 + j)) → vp_in (1 : Int32) 2 ∧ vp_in (0 : Int32) 2 ∧ ∀ M1 : gMem, M1 = va_up M' 46 (upd (M' 46) ((0 : Int32)).toNatClampNeg (M' 46 ((1 : Int32)).toNatClampNeg)) → vp_in (1 : Int32) 2 ∧ vp_in (0 : Int32) 2 ∧ ∀ M2 : gMem, M2 = va_up M1 54 (upd (M1 54) ((0 : Int32)).toNatClampNeg (M1 54 ((1 : Int32)).toNatClampNeg)) → vp_in (1 : Int32) 2 ∧ vp_in (0 : Int32) 2 ∧ ∀ M3 : gMem, M3 = va_up M2 60 (upd (M2 60) ((0 : Int32)).toNatClampNeg (M2 60 ((1 : Int32)).toNatClampNeg)) → ∀ M4 : gMem, M4 = va_up M3 41 (upd (M3 41) 20 (0 : Int32)) → post M4) : ∃ n9, wl_MO_keep_240 post n9 (0 : Int32) M := by
  refine pk_loop (fun k i M' => wl_MO_keep_240 post k (nI i) M') (fun i M' => fr (fun c j => (c = 55 ∨ c = 56 ∨ c = 57 ∨ c = 58 ∨ c = 59) ∧ j < 300) M M' ∧ ∀ j, j < i → M' 55 j = M 55 (300 + j) ∧ M' 56 j = M 56 (300 + j) ∧ M' 57 j = M 57 (300 + j) ∧ M' 58 j = M 58 (300 + j) ∧ M' 59 j = M 59 (300 + j)) 300 0 M (by omega) ⟨fr.refl, fun j hj => by omega⟩ ?_ ?_
  · rintro k M' ⟨h1, h2⟩
    unfold wl_MO_keep_240
    refine q_le (a := 300) (fun _ => ?_) (fun c => by omega)
    exact H M' h1 h2
  · rintro k i M' hi ⟨h1, h2⟩ K
    unfold wl_MO_keep_240
    have va : vp_in (nI (300 + i)) 600 := vp_in_nI (by omega) (by omega)
    have vb : vp_in (nI i) 600 := vp_in_nI (by omega) (by omega)
    rw [show (300 : Int32) + nI i = nI (300 + i) from nI_add 300 i, nI_clamp (show i < 2 ^ 31 by omega), nI_clamp (show 300 + i < 2 ^ 31 by omega)]
    refine q_le (a := 300) (fun c => by omega) (fun _ => ⟨va, vb, fun M1 e1 => ⟨va, vb, fun M2 e2 => ⟨va, vb, fun M3 e3 => ⟨va, vb, fun M4 e4 => ⟨va, vb, fun M5 e5 => q_x ?_⟩⟩⟩⟩⟩)
    rw [nI_1]
    have f1 : fr (fun c j => (c = 55 ∨ c = 56 ∨ c = 57 ∨ c = 58 ∨ c = 59) ∧ j < 300) M' M1 := by rw [e1]; exact fr_upd ⟨by omega, hi⟩
    have f2 : fr (fun c j => (c = 55 ∨ c = 56 ∨ c = 57 ∨ c = 58 ∨ c = 59) ∧ j < 300) M1 M2 := by rw [e2]; exact fr_upd ⟨by omega, hi⟩
    have f3 : fr (fun c j => (c = 55 ∨ c = 56 ∨ c = 57 ∨ c = 58 ∨ c = 59) ∧ j < 300) M2 M3 := by rw [e3]; exact fr_upd ⟨by omega, hi⟩
    have f4 : fr (fun c j => (c = 55 ∨ c = 56 ∨ c = 57 ∨ c = 58 ∨ c = 59) ∧ j < 300) M3 M4 := by rw [e4]; exact fr_upd ⟨by omega, hi⟩
    have f5 : fr (fun c j => (c = 55 ∨ c = 56 ∨ c = 57 ∨ c = 58 ∨ c = 59) ∧ j < 300) M4 M5 := by rw [e5]; exact fr_upd ⟨by omega, hi⟩
    refine K M5 ⟨h1.trans (f1.trans (f2.trans (f3.trans (f4.trans f5)))), fun j hj => ?_⟩
    by_cases c : j = i
    · subst c
      exact ⟨(by rw [u_ne e5, u_ne e4, u_ne e3, u_ne e2, u_at e1]; exact h1 _ _ (by omega)), (by rw [u_ne e5, u_ne e4, u_ne e3, u_at e2, u_ne e1]; exact h1 _ _ (by omega)), (by rw [u_ne e5, u_ne e4, u_at e3, u_ne e2, u_ne e1]; exact h1 _ _ (by omega)), (by rw [u_ne e5, u_at e4, u_ne e3, u_ne e2, u_ne e1]; exact h1 _ _ (by omega)), (by rw [u_at e5, u_ne e4, u_ne e3, u_ne e2, u_ne e1]; exact h1 _ _ (by omega))⟩
    · exact ⟨(by rw [u_ne e5, u_ne e4, u_ne e3, u_ne e2, u_ne e1]; exact (h2 j (by omega)).1), (by rw [u_ne e5, u_ne e4, u_ne e3, u_ne e2, u_ne e1]; exact (h2 j (by omega)).2.1), (by rw [u_ne e5, u_ne e4, u_ne e3, u_ne e2, u_ne e1]; exact (h2 j (by omega)).2.2.1), (by rw [u_ne e5, u_ne e4, u_ne e3, u_ne e2, u_ne e1]; exact (h2 j (by omega)).2.2.2.1), (by rw [u_ne e5, u_ne e4, u_ne e3, u_ne e2, u_ne e1]; exact (h2 j (by omega)).2.2.2.2)⟩
theorem c_keep {M : gMem} (h : pInv M) : wp_OF_keep (fun M1 => wp_MO_keep (fun M2 => pInv M2) M1) M := by
  unfold wp_OF_keep wp_CT_copyAll_m_9
  rw [cl_0, cl_4, show ((6144 : Int32)).toNatClampNeg = 6144 from rfl, show ((1024 : Int32)).toNatClampNeg = 1024 from rfl, show ((600 : Int32)).toNatClampNeg = 600 from rfl, show ((1600 : Int32)).toNatClampNeg = 1600 from rfl, show ((1500 : Int32)).toNatClampNeg = 1500 from rfl]
  have hb := h.2.2.2.2.2.1
  have n0 : ¬ (0 : Int32) < 0 := by decide
  have nn : ∀ a : Nat, 0 + a ≤ a := fun a => by omega
  refine ⟨n0, n0, by decide, nn _, nn _, fun i _ => hb 10 (by decide) _, fun M1 e1 => ⟨n0, n0, by decide, nn _, nn _, fun M2 e2 => ⟨n0, n0, by decide, nn _, nn _, fun M3 e3 => ⟨n0, n0, by decide, nn _, nn _, fun M4 e4 => ⟨n0, n0, by decide, nn _, nn _, fun M5 e5 => ⟨n0, n0, by decide, nn _, nn _, fun i _ => ?_, fun M6 e6 => ⟨n0, n0, by decide, nn _, nn _, fun M7 e7 M8 e8 M9 e9 Ma ea Mb eb => ?_⟩⟩⟩⟩⟩⟩⟩
  · rw [y_ne e5, y_ne e4, y_ne e3, y_ne e2, y_ne e1]; exact hb 15 (by decide) _
  have z : ∀ j, j = 0 + j := fun j => by omega
  have r1 : ∀ j, j < 6144 → Mb 2 j = M 10 j := fun j hj => by
    rw [u_ne eb, u_ne ea, u_ne e9, u_ne e8, y_ne e7, y_ne e6, y_ne e5, y_ne e4, y_ne e3, y_ne e2, z j, y_at e1 hj]
  have r2 : ∀ j, j < 4 → Mb 3 j = M 11 j := fun j hj => by
    rw [u_ne eb, u_ne ea, u_ne e9, u_ne e8, y_ne e7, y_ne e6, y_ne e5, y_ne e4, y_ne e3, z j, y_at e2 hj, y_ne e1]
  have r3 : ∀ j, j < 4 → Mb 4 j = M 12 j := fun j hj => by
    rw [u_ne eb, u_ne ea, u_ne e9, u_ne e8, y_ne e7, y_ne e6, y_ne e5, y_ne e4, z j, y_at e3 hj, y_ne e2, y_ne e1]
  have r4 : ∀ j, j < 1024 → Mb 5 j = M 13 j := fun j hj => by
    rw [u_ne eb, u_ne ea, u_ne e9, u_ne e8, y_ne e7, y_ne e6, y_ne e5, z j, y_at e4 hj, y_ne e3, y_ne e2, y_ne e1]
  have r5 : ∀ j, j < 600 → Mb 6 j = M 14 j := fun j hj => by
    rw [u_ne eb, u_ne ea, u_ne e9, u_ne e8, y_ne e7, y_ne e6, z j, y_at e5 hj, y_ne e4, y_ne e3, y_ne e2, y_ne e1]
  have r6 : ∀ j, j < 1600 → Mb 7 j = M 15 j := fun j hj => by
    rw [u_ne eb, u_ne ea, u_ne e9, u_ne e8, y_ne e7, z j, y_at e6 hj, y_ne e5, y_ne e4, y_ne e3, y_ne e2, y_ne e1]
  have r7 : ∀ j, j < 1500 → Mb 8 j = M 16 j := fun j hj => by
    rw [u_ne eb, u_ne ea, u_ne e9, u_ne e8, z j, y_at e7 hj, y_ne e6, y_ne e5, y_ne e4, y_ne e3, y_ne e2, y_ne e1]
  have lo9 : ∀ j, M7 9 j = M 9 j := fun j => by rw [y_ne e7, y_ne e6, y_ne e5, y_ne e4, y_ne e3, y_ne e2, y_ne e1]
  have r8 : Mb 1 4 = M 9 4 := by rw [u_ne eb, u_ne ea, u_ne e9, u_at e8]; exact lo9 4
  have r9 : Mb 1 7 = M 9 7 := by rw [u_ne eb, u_ne ea, u_at e9, u_ne e8]; exact lo9 7
  have ra : Mb 1 9 = M 9 9 := by rw [u_ne eb, u_at ea, u_ne e9, u_ne e8]; exact lo9 9
  have rb : Mb 0 8 = 0 := u_at eb
  have hi : ∀ c j, 41 ≤ c → Mb c j = M c j := fun c j hc => by rw [u_ne eb, u_ne ea, u_ne e9, u_ne e8, y_ne e7, y_ne e6, y_ne e5, y_ne e4, y_ne e3, y_ne e2, y_ne e1]
  have fA : fr sMD M Mb := by
    intro c j hc
    have hc1 : ¬ (1 ≤ c ∧ c ≤ 8) := fun w => hc (Or.inl (md1 w))
    have hc2 : ¬ (c = 0 ∧ j = 8) := fun w => hc (Or.inr (Or.inl w))
    rw [u_ne eb, u_ne ea, u_ne e9, u_ne e8, y_ne e7, y_ne e6, y_ne e5, y_ne e4, y_ne e3, y_ne e2, y_ne e1]
  have bB : rFb Mb := by
    have b1 : rFb M1 := by rw [e1]; exact rFb_cpy hb (fun i _ => hb 10 (by decide) _)
    have b5 : rFb M5 := upB e5 (upB e4 (upB e3 (upB e2 b1)))
    have b6 : rFb M6 := by rw [e6]; exact rFb_cpy b5 (fun i _ => b5 15 (by decide) _)
    exact upB eb (upB ea (upB e9 (upB e8 (upB e7 b6))))
  unfold wp_MO_keep
  refine kp2 (fun N1 f1 g1 => kp33 (fun N2 f2 g2 => kp74 (fun N3 f3 g3 => kp105 (fun N4 f4 g4 => kp209 (fun N5 f5 g5 => kp240 (fun N6 f6 g6 => ⟨in_12, in_02, fun N7 e7' => ⟨in_12, in_02, fun N8 e8' => ⟨in_12, in_02, fun N9 e9' Na ea' => ?_⟩⟩⟩))))))
  rw [cl_0, cl_1] at e7' e8' e9'
  have cls : ∀ c j, c ≤ 40 → Na c j = Mb c j := fun c j hc => by rw [u_ne ea', u_ne e9', u_ne e8', u_ne e7', f6 c j (by omega), f5 c j (by omega), f4 c j (by omega), f3 c j (by omega), f2 c j (by omega), f1 c j (by omega)]
  have fB : fr sMD Mb Na := by
    have k1 : fr sMD Mb N1 := f1.mono (fun c j q => Or.inl (md2 (by omega)))
    have k2 : fr sMD N1 N2 := f2.mono (fun c j q => Or.inl (md3 q))
    have k3 : fr sMD N2 N3 := f3.mono (fun c j q => Or.inl (md4 (by omega)))
    have k4 : fr sMD N3 N4 := f4.mono (fun c j q => Or.inl (md6 (by omega)))
    have k5 : fr sMD N4 N5 := f5.mono (fun c j q => Or.inl (md7 (by omega)))
    have k6 : fr sMD N5 N6 := f6.mono (fun c j q => Or.inl (md9 (by omega)))
    have k7 : fr sMD N6 N7 := by rw [e7']; exact fr_upd (Or.inl (md5 ⟨rfl, rfl⟩))
    have k8 : fr sMD N7 N8 := by rw [e8']; exact fr_upd (Or.inl (md8 ⟨rfl, rfl⟩))
    have k9 : fr sMD N8 N9 := by rw [e9']; exact fr_upd (Or.inl (mdA ⟨rfl, rfl⟩))
    have ka : fr sMD N9 Na := by rw [ea']; exact fr_upd (Or.inr (by unfold sDr; omega))
    exact k1.trans (k2.trans (k3.trans (k4.trans (k5.trans (k6.trans (k7.trans (k8.trans (k9.trans ka))))))))
  refine inv_md (fA.trans fB) h (rOb_shift h.2.1 (fun j hj => by rw [cls _ _ (by omega)]; exact r1 j hj) (fun j hj => by rw [cls _ _ (by omega)]; exact r2 j hj) (fun j hj => by rw [cls _ _ (by omega)]; exact r3 j hj) (fun j hj => by rw [cls _ _ (by omega)]; exact r4 j hj) (fun j hj => by rw [cls _ _ (by omega)]; exact r5 j hj) (fun j hj => by rw [cls _ _ (by omega)]; exact r6 j hj) (fun j hj => by rw [cls _ _ (by omega)]; exact r7 j hj) (by rw [cls _ _ (by omega)]; exact r8) (by rw [cls _ _ (by omega)]; exact r9) (by rw [cls _ _ (by omega)]; exact ra) (fun j hj => ?_) (fun j hj => ?_) (fun j hj => ?_) (fun j hj => ?_) ?_ (fun c j h1 h2 hj => ?_) (fun j hj => ?_) ?_ (fun c j h1 h2 hj => ?_) ?_) ⟨0, by omega, by rw [cls _ _ (by omega)]; exact rb, u_at ea', fun k hk => by omega⟩ ?_
  · rw [u_ne ea', u_ne e9', u_ne e8', u_ne e7', f6 _ _ (by omega), f5 _ _ (by omega), f4 _ _ (by omega), f3 _ _ (by omega), f2 _ _ (by omega), g1 j hj]
    exact hi _ _ (by omega)
  · rw [u_ne ea', u_ne e9', u_ne e8', u_ne e7', f6 _ _ (by omega), f5 _ _ (by omega), f4 _ _ (by omega), f3 _ _ (by omega), (g2 j hj).1, f1 _ _ (by omega)]
    exact hi _ _ (by omega)
  · rw [u_ne ea', u_ne e9', u_ne e8', u_ne e7', f6 _ _ (by omega), f5 _ _ (by omega), f4 _ _ (by omega), f3 _ _ (by omega), (g2 j hj).2, f1 _ _ (by omega)]
    exact hi _ _ (by omega)
  · rw [u_ne ea', u_ne e9', u_ne e8', u_ne e7', f6 _ _ (by omega), f5 _ _ (by omega), f4 _ _ (by omega), g3 j hj, f2 _ _ (by omega), f1 _ _ (by omega)]
    exact hi _ _ (by omega)
  · rw [u_ne ea', u_ne e9', u_ne e8', u_at e7', f6 _ _ (by omega), f5 _ _ (by omega), f4 _ _ (by omega), f3 _ _ (by omega), f2 _ _ (by omega), f1 _ _ (by omega)]
    exact hi _ _ (by omega)
  · have e : N4 c j = N3 c (100 + j) := by
      obtain ⟨x1, x2, x3, x4, x5, x6⟩ := g4 j hj
      rcases (by omega : c = 47 ∨ c = 48 ∨ c = 49 ∨ c = 50 ∨ c = 51 ∨ c = 52) with w | w | w | w | w | w
      all_goals (rw [w]; assumption)
    rw [u_ne ea', u_ne e9', u_ne e8', u_ne e7', f6 _ _ (by omega), f5 _ _ (by omega), e, f3 _ _ (by omega), f2 _ _ (by omega), f1 _ _ (by omega)]
    exact hi _ _ (by omega)
  · rw [u_ne ea', u_ne e9', u_ne e8', u_ne e7', f6 _ _ (by omega), g5 j hj, f4 _ _ (by omega), f3 _ _ (by omega), f2 _ _ (by omega), f1 _ _ (by omega)]
    exact hi _ _ (by omega)
  · rw [u_ne ea', u_ne e9', u_at e8', u_ne e7', f6 _ _ (by omega), f5 _ _ (by omega), f4 _ _ (by omega), f3 _ _ (by omega), f2 _ _ (by omega), f1 _ _ (by omega)]
    exact hi _ _ (by omega)
  · have e : N6 c j = N5 c (300 + j) := by
      obtain ⟨x1, x2, x3, x4, x5⟩ := g6 j hj
      rcases (by omega : c = 55 ∨ c = 56 ∨ c = 57 ∨ c = 58 ∨ c = 59) with w | w | w | w | w
      all_goals (rw [w]; assumption)
    rw [u_ne ea', u_ne e9', u_ne e8', u_ne e7', e, f5 _ _ (by omega), f4 _ _ (by omega), f3 _ _ (by omega), f2 _ _ (by omega), f1 _ _ (by omega)]
    exact hi _ _ (by omega)
  · rw [u_ne ea', u_at e9', u_ne e8', u_ne e7', f6 _ _ (by omega), f5 _ _ (by omega), f4 _ _ (by omega), f3 _ _ (by omega), f2 _ _ (by omega), f1 _ _ (by omega)]
    exact hi _ _ (by omega)
  · intro c hc k
    rw [cls c k (by simp only [List.mem_cons, List.not_mem_nil, or_false] at hc; omega)]
    exact bB c hc k
end
