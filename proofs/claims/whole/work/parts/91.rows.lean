/-! write: rows of relocations and symbols, the class -/
section
variable {M D : gMem} {nt ns nr n : Nat} {F : Nat → Int32}
noncomputable def rlv (D : gMem) (ns x : Nat) : Int32 := if D 58 x = -1 then 0 else nI (tn D ns (D 58 x).toInt.toNat + 1)
def isS (D : gMem) (s x : Nat) : Bool := decide (D 55 x = nI s)
theorem rcS_e {s : Nat} : rcS D nr s = cnt (isS D s) nr := rfl
noncomputable def rlF (D : gMem) (nt ns nr s : Nat) (F : Nat → Int32) : Nat → Nat → Int32
  | 0 => F
  | x + 1 => if isS D s x = true then w4 (w4 (w4 (rlF D nt ns nr s F x) (bgP D nt ns nr (5 + s) + 12 * cnt (isS D s) x) (D 56 x)) (bgP D nt ns nr (5 + s) + 12 * cnt (isS D s) x + 4) ((256 : Int32) * rlv D ns x + D 57 x)) (bgP D nt ns nr (5 + s) + 12 * cnt (isS D s) x + 8) (D 59 x) else rlF D nt ns nr s F x
noncomputable def rA (D : gMem) (nt ns nr : Nat) (F : Nat → Int32) : Nat → Nat → Int32
  | 0 => F
  | s + 1 => rlF D nt ns nr s (rA D nt ns nr F s) nr
theorem lnP_5 {s : Nat} (hs : s < 3) : lnP D nt ns nr (5 + s) = 12 * cnt (isS D s) nr := by
  unfold lnP W9
  rw [if_neg (by omega), if_neg (by omega), if_neg (by omega), if_pos (by omega), show 5 + s - 5 = s by omega]
  rfl
theorem rl_in2 (d : dW D nt ns nr) {s x : Nat} (hs : s < 3) (hx : x < nr) (h : isS D s x = true) : thW (W9 D nt ns nr) (5 + s) = true ∧ bgP D nt ns nr (5 + s) + 12 * cnt (isS D s) x + 12 ≤ tbP D nt ns nr := by
  have hc := cnt_lt (g := isS D s) hx h
  have ht : thW (W9 D nt ns nr) (5 + s) = true := decide_eq_true (by
    right; right
    have e : lnP D nt ns nr (5 + s) = W9 D nt ns nr (5 + s) := by unfold lnP; rw [if_neg (by omega)]
    rw [← e, lnP_5 hs]
    omega)
  have hb := bg_in d (show 5 + s < 11 by omega) (by omega) ht
  rw [lnP_5 hs] at hb
  exact ⟨ht, by omega⟩
theorem sy_in (d : dW D nt ns nr) {x : Nat} (hx : x < nr) : D 58 x = -1 ∨ ∃ y, y < ns ∧ D 58 x = nI y ∧ rlv D ns x = nI (tn D ns y + 1) := by
  have ok := (d.2.2.2.2.2.2.2 x hx).2.2.2.2.2
  have h1 := ok.2.2.2.2.1
  have h2 := ok.2.2.2.2.2.1
  by_cases c : D 58 x = -1
  · exact Or.inl c
  · right
    have c0 : 0 ≤ (D 58 x).toInt := by
      by_cases c1 : (D 58 x).toInt = -1
      · exact absurd (Int32.toInt_inj.mp (c1.trans (show (-1 : Int32).toInt = -1 from rfl).symm)) c
      · omega
    obtain ⟨y, hy, e⟩ := ti_nat c0
    rw [e, ti_nI hy] at h2
    refine ⟨y, by omega, e, ?_⟩
    unfold rlv
    rw [if_neg c, e, ti_nI hy]
    rfl
theorem k_rel1 {post : gMem → Prop} {s : Nat} (L : kL D nt ns nr M) (d : dW D nt ns nr) (hn : n = szF D nt ns nr) (hs : s < 3) (C : cW n M F) (H : ∀ M', fr s18 M M' → cW n M' (rlF D nt ns nr s F nr) → post M') : wp_WR_putRelocations post (nI s) M := by
  have hE : tbP D nt ns nr ≤ n := by rw [hn]; unfold szF; omega
  have h8 := C.1
  have e := d.2.2.2.2
  have hnr := e.1
  have hns := d.2.2.2.1.1
  have go : ∀ dd x (v2 : Int32) (M' : gMem), x + dd = nr → (thW (W9 D nt ns nr) (5 + s) = true → v2 = nI (bgP D nt ns nr (5 + s) + 12 * cnt (isS D s) x)) → fr s18 M M' → cW n M' (rlF D nt ns nr s F x) → wl_WR_putRelocations_11 post (dd + 1) (nI s) v2 (nI x) M' := by
    intro dd
    induction dd with
    | zero =>
      intro x v2 M' hx hv f C'
      have L1 := kL_fr f L
      have ex : x = nr := by omega
      subst ex
      unfold wl_WR_putRelocations_11
      rw [L1.1 1 9 (by omega), e.2.1]
      exact q_le (fun _ => H M' f C') (fun c => by omega)
    | succ dd ih =>
      intro x v2 M' hx hv f C'
      have L1 := kL_fr f L
      have e19 : M' 1 9 = nI nr := (L1.1 1 9 (by omega)).trans e.2.1
      have r := e.2.2.2 x (by omega)
      have ec : cnt (isS D s) (x + 1) = cnt (isS D s) x + if isS D s x = true then 1 else 0 := rfl
      have er : rlF D nt ns nr s F (x + 1) = if isS D s x = true then w4 (w4 (w4 (rlF D nt ns nr s F x) (bgP D nt ns nr (5 + s) + 12 * cnt (isS D s) x) (D 56 x)) (bgP D nt ns nr (5 + s) + 12 * cnt (isS D s) x + 4) ((256 : Int32) * rlv D ns x + D 57 x)) (bgP D nt ns nr (5 + s) + 12 * cnt (isS D s) x + 8) (D 59 x) else rlF D nt ns nr s F x := rfl
      unfold wl_WR_putRelocations_11
      rw [e19, show nI x + (1 : Int32) = nI (x + 1) from nI_1 x]
      refine q_le (fun c => by omega) (fun _ => w_rfact (k := 0) e19 hnr (by omega) (by omega) ?_)
      rw [show M' 8 (5 * x + 0) = D 55 x from (L1.1 8 _ (by omega)).trans r.1]
      refine ⟨fun c => q_x ?_, fun c => ?_⟩
      · have hi : isS D s x = false := decide_eq_false c
        rw [hi, if_neg (by decide)] at ec er
        exact ih (x + 1) v2 M' (by omega) (fun t => by rw [ec]; exact hv t) f (by rw [er]; exact C')
      · have hi : isS D s x = true := decide_eq_true c
        rw [hi, if_pos rfl] at ec er
        have hin := rl_in2 d hs (show x < nr by omega) hi
        rw [hv hin.1]
        generalize hP : bgP D nt ns nr (5 + s) + 12 * cnt (isS D s) x = P at er hin
        have fin : ∀ s0 : Int32, s0 = rlv D ns x → wj_WR_putRelocations_69 post (wl_WR_putRelocations_11 post (dd + 1)) (nI s) (nI P) (nI x) s0 M' := by
          intro s0 es
          subst es
          unfold wj_WR_putRelocations_69
          refine w_rfact (k := 1) e19 hnr (by omega) (by omega) ?_
          rw [show M' 8 (5 * x + 1) = D 56 x from (L1.1 8 _ (by omega)).trans r.2.1]
          refine c_p4 C' (fun M1 f1 C1 => ?_)
          have L2 := kL_fr f1 L1
          have e19' : M1 1 9 = nI nr := (L2.1 1 9 (by omega)).trans e.2.1
          refine w_rfact (k := 2) e19' hnr (by omega) (by omega) ?_
          rw [show M1 8 (5 * x + 2) = D 57 x from (L2.1 8 _ (by omega)).trans r.2.2.1, i4]
          refine c_p4 C1 (fun M2 f2 C2 => ?_)
          have L3 := kL_fr f2 L2
          have e19'' : M2 1 9 = nI nr := (L3.1 1 9 (by omega)).trans e.2.1
          refine w_rfact (k := 4) e19'' hnr (by omega) (by omega) ?_
          rw [show M2 8 (5 * x + 4) = D 59 x from (L3.1 8 _ (by omega)).trans r.2.2.2.2.1, i8, i12, show nI x + (1 : Int32) = nI (x + 1) from nI_1 x]
          refine c_p4 C2 (fun M3 f3 C3 => q_x (q_x ?_))
          refine ih (x + 1) _ M3 (by omega) (fun _ => ?_) (f.trans (f1.trans (f2.trans f3))) (by rw [er]; exact C3)
          rw [ec, ← hP]; congr 1
        refine w_rfact (k := 3) e19 hnr (by omega) (by omega) ?_
        rw [show M' 8 (5 * x + 3) = D 58 x from (L1.1 8 _ (by omega)).trans r.2.2.2.1]
        rcases sy_in d (show x < nr by omega) with c58 | ⟨y, hy, e58, ev⟩
        · rw [c58]
          refine q_t (by decide) ?_
          unfold wj_WR_putRelocations_58
          exact fin 0 (by unfold rlv; rw [if_pos c58])
        · rw [e58, nI_clamp (by omega)]
          refine q_n0 (q_lt (b := 100) (fun _ => ⟨vp_in_nI (by omega) (by omega), ?_⟩) (fun c => by omega))
          rw [L1.2.2.1 y hy, ← ev]
          exact fin _ rfl
  unfold wp_WR_putRelocations
  refine ⟨by rw [show (5 : Int32) + nI s = nI (5 + s) from nI_add 5 s]; exact vp_in_nI (by omega) (by omega), q_x ⟨nr + 1, go nr 0 _ M (by omega) (fun t => ?_) fr.refl C⟩⟩
  rw [show (5 : Int32) + nI s = nI (5 + s) from nI_add 5 s, nI_clamp (by omega), L.2.2.2.2.2.2.2.2.2.1 (5 + s) (by omega) t]
  rfl
theorem k_relA {post : gMem → Prop} (L : kL D nt ns nr M) (d : dW D nt ns nr) (hn : n = szF D nt ns nr) (C : cW n M F) (H : ∀ M', fr s18 M M' → cW n M' (rA D nt ns nr F 3) → ∃ n9 : Nat, wl_WR_putParts_108 post n9 (0 : Int32) M') : ∃ n9 : Nat, wl_WR_putParts_90 post n9 (0 : Int32) M := by
  refine pk_loop (fun k s M' => wl_WR_putParts_90 post k (nI s) M') (fun s M' => fr s18 M M' ∧ cW n M' (rA D nt ns nr F s)) 3 0 M (by omega) ⟨fr.refl, C⟩ ?_ ?_
  · rintro k M' ⟨h1, h2⟩
    unfold wl_WR_putParts_90
    exact q_lt (a := 2) (fun _ => H M' h1 h2) (fun c => by omega)
  · rintro k s M' hs ⟨h1, h2⟩ K
    unfold wl_WR_putParts_90
    rw [nI_1]
    exact q_lt (a := 2) (fun c => by omega) (fun _ => k_rel1 (kL_fr h1 L) d hn hs h2 (fun M2 f2 C2 => q_x (K M2 ⟨h1.trans f2, C2⟩)))
/-! symbols -/
noncomputable def whv (D : gMem) (nt ns nr x : Nat) : Int32 := if D 47 x = -1 then 0 else if D 47 x = 4 then 65521 else if D 47 x = 5 then 65522 else nI (enW (W9 D nt ns nr) (D 47 x).toInt.toNat)
noncomputable def RB (D : gMem) (nt ns nr x : Nat) : Nat → Int32 := rowF D (fun _ => 0) 0 x (nI (plN D ns (tn D ns x))) (whv D nt ns nr x)
noncomputable def syF (D : gMem) (nt ns nr : Nat) (F : Nat → Int32) : Nat → Int32 := fun k => if bgP D nt ns nr 8 + 16 ≤ k ∧ k < bgP D nt ns nr 8 + 16 + 16 * ns ∧ (k - (bgP D nt ns nr 8 + 16)) % 16 ≠ 13 then RB D nt ns nr (od D ns ((k - (bgP D nt ns nr 8 + 16)) / 16)) ((k - (bgP D nt ns nr 8 + 16)) % 16) else F k
noncomputable def syC (D : gMem) (nt ns nr : Nat) (F : Nat → Int32) : Nat → Nat → Int32
  | 0 => F
  | r + 1 => rowF D (syC D nt ns nr F r) (bgP D nt ns nr 8 + 16 * (r + 1)) (od D ns r) (nI (plN D ns r)) (whv D nt ns nr (od D ns r))
noncomputable def syM (D : gMem) (nt ns nr : Nat) (F : Nat → Int32) : Nat → Nat → Int32
  | 0 => F
  | x + 1 => rowF D (syM D nt ns nr F x) (bgP D nt ns nr 8 + 16 + 16 * tn D ns x) x (nI (plN D ns (tn D ns x))) (whv D nt ns nr x)
theorem syC_e : syC D nt ns nr F ns = syF D nt ns nr F := by
  have key : ∀ r, r ≤ ns → ∀ k, syC D nt ns nr F r k = if bgP D nt ns nr 8 + 16 ≤ k ∧ k < bgP D nt ns nr 8 + 16 + 16 * r ∧ (k - (bgP D nt ns nr 8 + 16)) % 16 ≠ 13 then RB D nt ns nr (od D ns ((k - (bgP D nt ns nr 8 + 16)) / 16)) ((k - (bgP D nt ns nr 8 + 16)) % 16) else F k := by
    intro r
    induction r with
    | zero => intro _ k; rw [if_neg (by omega)]; rfl
    | succ r ih =>
      intro hr k
      have ho := od_s (M := D) (show r < ns by omega)
      show rowF D (syC D nt ns nr F r) (bgP D nt ns nr 8 + 16 * (r + 1)) (od D ns r) (nI (plN D ns r)) (whv D nt ns nr (od D ns r)) k = _
      rw [rowF_e]
      by_cases c : bgP D nt ns nr 8 + 16 * (r + 1) ≤ k ∧ k < bgP D nt ns nr 8 + 16 * (r + 1) + 16 ∧ k ≠ bgP D nt ns nr 8 + 16 * (r + 1) + 13
      · rw [if_pos c, if_pos (by omega), show (k - (bgP D nt ns nr 8 + 16)) / 16 = r by omega, show (k - (bgP D nt ns nr 8 + 16)) % 16 = k - (bgP D nt ns nr 8 + 16 * (r + 1)) by omega]
        unfold RB
        rw [ho.2]
      · rw [if_neg c, ih (by omega) k]
        by_cases c2 : bgP D nt ns nr 8 + 16 ≤ k ∧ k < bgP D nt ns nr 8 + 16 + 16 * r ∧ (k - (bgP D nt ns nr 8 + 16)) % 16 ≠ 13
        · rw [if_pos c2, if_pos (by omega)]
        · rw [if_neg c2, if_neg (by omega)]
  funext k
  exact key ns (Nat.le_refl _) k
theorem syM_e : syM D nt ns nr F ns = syF D nt ns nr F := by
  have key : ∀ x, x ≤ ns → ∀ k, syM D nt ns nr F x k = if (bgP D nt ns nr 8 + 16 ≤ k ∧ k < bgP D nt ns nr 8 + 16 + 16 * ns ∧ (k - (bgP D nt ns nr 8 + 16)) % 16 ≠ 13) ∧ od D ns ((k - (bgP D nt ns nr 8 + 16)) / 16) < x then RB D nt ns nr (od D ns ((k - (bgP D nt ns nr 8 + 16)) / 16)) ((k - (bgP D nt ns nr 8 + 16)) % 16) else F k := by
    intro x
    induction x with
    | zero => intro _ k; rw [if_neg (fun w => Nat.not_lt_zero _ w.2)]; rfl
    | succ x ih =>
      intro hx k
      have ht := tn_lt (M := D) (show x < ns by omega)
      have ho := od_t (M := D) (show x < ns by omega)
      show rowF D (syM D nt ns nr F x) (bgP D nt ns nr 8 + 16 + 16 * tn D ns x) x (nI (plN D ns (tn D ns x))) (whv D nt ns nr x) k = _
      rw [rowF_e]
      by_cases c : bgP D nt ns nr 8 + 16 + 16 * tn D ns x ≤ k ∧ k < bgP D nt ns nr 8 + 16 + 16 * tn D ns x + 16 ∧ k ≠ bgP D nt ns nr 8 + 16 + 16 * tn D ns x + 13
      · have e1 : (k - (bgP D nt ns nr 8 + 16)) / 16 = tn D ns x := by omega
        have e2 : (k - (bgP D nt ns nr 8 + 16)) % 16 = k - (bgP D nt ns nr 8 + 16 + 16 * tn D ns x) := by omega
        rw [if_pos c, if_pos (by rw [e1, ho]; exact ⟨⟨by omega, by omega, by omega⟩, by omega⟩), e1, ho, e2]
        rfl
      · rw [if_neg c, ih (by omega) k]
        by_cases c2 : bgP D nt ns nr 8 + 16 ≤ k ∧ k < bgP D nt ns nr 8 + 16 + 16 * ns ∧ (k - (bgP D nt ns nr 8 + 16)) % 16 ≠ 13
        · have hr : (k - (bgP D nt ns nr 8 + 16)) / 16 < ns := by omega
          have hne : od D ns ((k - (bgP D nt ns nr 8 + 16)) / 16) ≠ x := by
            intro w
            have := (od_s (M := D) hr).2
            rw [w] at this
            exact c (by omega)
          by_cases c3 : od D ns ((k - (bgP D nt ns nr 8 + 16)) / 16) < x
          · rw [if_pos ⟨c2, c3⟩, if_pos ⟨c2, by omega⟩]
          · rw [if_neg (fun w => c3 w.2), if_neg (fun w => c3 (by have := w.2; omega))]
        · rw [if_neg (fun w => c2 w.1), if_neg (fun w => c2 w.1)]
  funext k
  rw [key ns (Nat.le_refl _) k]
  unfold syF
  by_cases c2 : bgP D nt ns nr 8 + 16 ≤ k ∧ k < bgP D nt ns nr 8 + 16 + 16 * ns ∧ (k - (bgP D nt ns nr 8 + 16)) % 16 ≠ 13
  · have hr : (k - (bgP D nt ns nr 8 + 16)) / 16 < ns := by omega
    rw [if_pos c2, if_pos ⟨c2, (od_s (M := D) hr).1⟩]
  · rw [if_neg c2, if_neg (fun w => c2 w.1)]
theorem lnP_8 : lnP D nt ns nr 8 = 16 * (1 + ns) := by unfold lnP W9; rw [if_neg (by omega), if_neg (by omega), if_neg (by omega), if_neg (by omega), if_pos rfl]
theorem w47 (d : dW D nt ns nr) {x : Nat} (hx : x < ns) : D 47 x = -1 ∨ ∃ w, w ≤ 5 ∧ D 47 x = nI w := by
  have ok := (d.2.2.2.1.2.2.2 x hx).2.2.2.2.2.2.1
  have h1 := ok.1
  have h2 := ok.2.1
  by_cases c1 : (D 47 x).toInt = -1
  · exact Or.inl (Int32.toInt_inj.mp (c1.trans (show (-1 : Int32).toInt = -1 from rfl).symm))
  · obtain ⟨w, hw, e⟩ := ti_nat (x := D 47 x) (by omega)
    rw [e, ti_nI hw] at h2
    exact Or.inr ⟨w, by omega, e⟩
theorem k_where2 {post : Int32 → gMem → Prop} {x : Nat} (L : kL D nt ns nr M) (d : dW D nt ns nr) (hx : x < ns) (H : post (whv D nt ns nr x) M) : wp_WR_whereInFile post (D 47 x) M := by
  unfold wp_WR_whereInFile
  unfold whv at H
  rcases w47 d hx with c | ⟨w, hw, e⟩
  · rw [if_pos c] at H
    exact q_t c H
  · have n1 : ¬ D 47 x = -1 := by
      rw [e]; intro q
      have := congrArg Int32.toInt q
      rw [ti_nI (by omega), show (-1 : Int32).toInt = -1 from rfl] at this
      omega
    rw [if_neg n1] at H
    refine q_f n1 ?_
    by_cases c4 : D 47 x = 4
    · rw [if_pos c4] at H; exact q_t c4 H
    · rw [if_neg c4] at H
      refine q_f c4 ?_
      by_cases c5 : D 47 x = 5
      · rw [if_pos c5] at H; exact q_t c5 H
      · rw [if_neg c5, e, ti_nI (by omega), show (w : Int).toNat = w from rfl] at H
        refine q_f c5 ?_
        have w3 : w ≤ 3 := by
          by_cases a4 : w = 4
          · exact absurd (by rw [e, a4]; rfl) c4
          · by_cases a5 : w = 5
            · exact absurd (by rw [e, a5]; rfl) c5
            · omega
        rw [e, nI_clamp (by omega), L.2.2.2.2.2.2.2.1 w (by omega)]
        exact q_n0 (q_lt (a := 3) (fun c => by omega) (fun _ => ⟨vp_in_nI (by omega) (by omega), H⟩))
theorem k_sym1 {post : gMem → Prop} {r : Nat} (L : kL D nt ns nr M) (d : dW D nt ns nr) (hn : n = szF D nt ns nr) (hr : r < ns) (C : cW n M F) (H : ∀ M', fr s18 M M' → cW n M' (rowF D F (bgP D nt ns nr 8 + 16 * (r + 1)) (od D ns r) (nI (plN D ns r)) (whv D nt ns nr (od D ns r))) → post M') : wp_WR_putSymbol post (nI r) M := by
  have hE : tbP D nt ns nr ≤ n := by rw [hn]; unfold szF; omega
  have h8 := C.1
  have u := d.2.2.2.1
  have hns := u.1
  have hb := bg_in d (show 8 < 11 by omega) (by omega) (th_8 (by omega))
  rw [lnP_8] at hb
  have ho := od_s (M := D) hr
  have rw0 := u.2.2.2 _ ho.1
  unfold wp_WR_putSymbol
  rw [cl_8, nI_clamp (by omega), L.2.2.2.2.2.2.2.2.2.1 8 (by omega) (th_8 (by omega)), L.2.1 r hr, L.2.2.2.2.1 r hr, nI_1, show (16 : Int32) * nI (r + 1) = nI (16 * (r + 1)) from pk_mul 16 (r + 1), nI_add]
  generalize hP : bgP D nt ns nr 8 + 16 * (r + 1) = P at H
  generalize hx : od D ns r = x at H ho rw0
  refine ⟨in_8, q_x ⟨vp_in_nI (by omega) (by omega), q_x ⟨vp_in_nI (by omega) (by omega), ?_⟩⟩⟩
  have e17 : ∀ N, kL D nt ns nr N → N 1 7 = nI ns := fun N LN => (LN.1 1 7 (by omega)).trans u.2.1
  have e6 : ∀ N j, kL D nt ns nr N → N 6 j = D 6 j := fun N j LN => LN.1 6 j (by omega)
  rw [i4, i8, i12, i14]
  refine c_p4 C (fun M1 f1 C1 => ?_)
  have L1 := kL_fr f1 L
  refine w_fact (k := 1) (e17 _ L1) hns ho.1 (by omega) ?_
  rw [e6 _ _ L1, rw0.2.1]
  refine c_p4 C1 (fun M2 f2 C2 => ?_)
  have L2 := kL_fr f2 L1
  refine w_fact (k := 2) (e17 _ L2) hns ho.1 (by omega) ?_
  rw [e6 _ _ L2, rw0.2.2.1]
  refine c_p4 C2 (fun M3 f3 C3 => ?_)
  have L3 := kL_fr f3 L2
  refine w_fact (k := 3) (e17 _ L3) hns ho.1 (by omega) (w_fact (k := 4) (e17 _ L3) hns ho.1 (by omega) ?_)
  rw [e6 _ _ L3, e6 _ _ L3, rw0.2.2.2.1, rw0.2.2.2.2.1]
  refine c_p1 C3 (fun M4 f4 C4 => ?_)
  have L4 := kL_fr f4 L3
  refine w_fact (k := 0) (e17 _ L4) hns ho.1 (by omega) ?_
  rw [show 6 * x + 0 = 6 * x by omega, e6 _ _ L4, rw0.1]
  refine k_where2 L4 d ho.1 (c_p2 C4 (fun M5 f5 C5 => H M5 (f1.trans (f2.trans (f3.trans (f4.trans f5)))) C5))
theorem k_syms2 {post : gMem → Prop} (L : kL D nt ns nr M) (d : dW D nt ns nr) (hn : n = szF D nt ns nr) (C : cW n M F) (H : ∀ M', fr s18 M M' → cW n M' (syF D nt ns nr F) → vp_in (9 : Int32) 11 ∧ vp_in (9 : Int32) 11 ∧ wp_FB_copyIn_21 (fun M2 => vp_in (10 : Int32) 11 ∧ vp_in (10 : Int32) 11 ∧ wp_FB_copyIn_23 (fun M4 => post M4) (0 : Int32) (M2 27 ((10 : Int32)).toNatClampNeg) (M2 28 ((10 : Int32)).toNatClampNeg) M2) (0 : Int32) (M' 27 ((9 : Int32)).toNatClampNeg) (M' 28 ((9 : Int32)).toNatClampNeg) M') : ∃ n9 : Nat, wl_WR_putParts_108 post n9 (0 : Int32) M := by
  have hns := d.2.2.2.1.1
  refine pk_loop (fun k r M' => wl_WR_putParts_108 post k (nI r) M') (fun r M' => fr s18 M M' ∧ cW n M' (syC D nt ns nr F r)) ns 0 M (by omega) ⟨fr.refl, C⟩ ?_ ?_
  · rintro k M' ⟨h1, h2⟩
    have L1 := kL_fr h1 L
    rw [syC_e] at h2
    unfold wl_WR_putParts_108
    rw [L1.1 1 7 (by omega), d.2.2.2.1.2.1]
    exact q_le (fun _ => H M' h1 h2) (fun c => by omega)
  · rintro k r M' hr ⟨h1, h2⟩ K
    have L1 := kL_fr h1 L
    unfold wl_WR_putParts_108
    rw [L1.1 1 7 (by omega), d.2.2.2.1.2.1, nI_1]
    exact q_le (fun c => by omega) (fun _ => k_sym1 L1 d hn hr h2 (fun M2 f2 C2 => q_x (K M2 ⟨h1.trans f2, C2⟩)))
end
