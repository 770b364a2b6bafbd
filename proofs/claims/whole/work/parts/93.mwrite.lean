/-! write: the reference's file, and both -/
section
variable {M D : gMem} {nt ns nr n : Nat} {F : Nat → Int32}
def mL (D : gMem) (nt ns nr n : Nat) (M : gMem) : Prop := eqD D M ∧ rTi M ∧ (∀ p, p < 11 → thW (W9 D nt ns nr) p = true → M 65 p = nI (bgP D nt ns nr p)) ∧ (∀ p, p < 11 → M 66 p = nI (lnP D nt ns nr p)) ∧ (∀ p, p < 11 → M 67 p = nI (enW (W9 D nt ns nr) p)) ∧ M 41 40 = nI (nE D nt ns nr) ∧ (∀ x, x < ns → M 70 x = nI (plN D ns (tn D ns x))) ∧ (∀ x, x < ns → M 71 x = nI (tn D ns x)) ∧ (∀ p, p < 11 → thW (W9 D nt ns nr) p = true → M 72 p = nI (plL (W9 D nt ns nr) p)) ∧ M 41 22 = nI n
theorem mL_fr {S : Nat → Nat → Prop} {M' : gMem} (f : fr S M M') (hS : ∀ c j, S c j → c = 62 ∨ c = 68 ∨ c = 69 ∨ (c = 41 ∧ (j = 30 ∨ j = 32))) (h : mL D nt ns nr n M) : mL D nt ns nr n M' := by
  have o : ∀ c j, ¬ (c = 62 ∨ c = 68 ∨ c = 69 ∨ (c = 41 ∧ (j = 30 ∨ j = 32))) → M' c j = M c j := fun c j hc => f c j (fun w => hc (hS c j w))
  obtain ⟨h1, h2, h3, h4, h5, h6, h7, h8, h9, ha⟩ := h
  exact ⟨fun c j q => by rw [o c j (by omega)]; exact h1 c j q, ⟨fun k hk => by rw [o 63 k (by omega)]; exact h2.1 k hk, fun t ht => by rw [o 64 t (by omega)]; exact h2.2 t ht⟩, fun p hp w => by rw [o 65 p (by omega)]; exact h3 p hp w, fun p hp => by rw [o 66 p (by omega)]; exact h4 p hp, fun p hp => by rw [o 67 p (by omega)]; exact h5 p hp, by rw [o 41 40 (by omega)]; exact h6, fun x hx => by rw [o 70 x (by omega)]; exact h7 x hx, fun x hx => by rw [o 71 x (by omega)]; exact h8 x hx, fun p hp w => by rw [o 72 p (by omega)]; exact h9 p hp w, by rw [o 41 22 (by omega)]; exact ha⟩
theorem mL_2 {M' : gMem} (f : fr sf2 M M') (h : mL D nt ns nr n M) : mL D nt ns nr n M' := mL_fr f (fun c j w => Or.inl w) h
theorem m_header {post : gMem → Prop} (L : mL D nt ns nr n M) (d : dW D nt ns nr) (no : ¬ bySt D nt) (hn : n = szF D nt ns nr) (C : mW n M (fun _ => 0)) (H : ∀ M', fr sf2 M M' → mW n M' (hdF D nt ns nr) → post M') : wp_MO_writeHead post (nI (tbP D nt ns nr)) M := by
  have hb := tb_in d
  have hn2 : 52 ≤ n := by rw [hn]; unfold szF; omega
  have hnt := d.2.2.1.1
  unfold wp_MO_writeHead
  refine m_p4 (p := 0) C (fun M1 f1 C1 => m_p4 (p := 4) C1 (fun M2 f2 C2 => m_p2 (p := 16) C2 (fun M3 f3 C3 => m_p2 (p := 18) C3 (fun M4 f4 C4 => m_p4 (p := 20) C4 (fun M5 f5 C5 => m_p4 (p := 32) C5 (fun M6 f6 C6 => ?_))))))
  have fA : fr sf2 M M6 := f1.trans (f2.trans (f3.trans (f4.trans (f5.trans f6))))
  have L6 := mL_2 fA L
  have hc := cnt_le (g := shG 0 D) nt
  have fin : wj_MO_writeHead_101 post (flW (cnt (shG 0 D) nt)) (36 : Int32) M6 := by
    unfold wj_MO_writeHead_101
    refine m_p4 (p := 36) C6 (fun M7 f7 C7 => m_p2 (p := 40) C7 (fun M8 f8 C8 => m_p2 (p := 46) C8 (fun M9 f9 C9 => ?_)))
    have L9 := mL_2 (f7.trans (f8.trans f9)) L6
    rw [L9.2.2.2.2.2.1]
    refine m_p2 (p := 48) C9 (fun Ma fa Ca => ⟨vp_in_nI (n := 10) (by omega) (by omega), ?_⟩)
    have La := mL_2 fa L9
    rw [show ((10 : Int32)).toNatClampNeg = 10 from rfl, La.2.2.2.2.1 10 (by omega)]
    exact m_p2 (p := 50) Ca (fun Mb fb Cb => H Mb (fA.trans (f7.trans (f8.trans (f9.trans (fa.trans fb))))) Cb)
  have go : ∀ dd k, k + dd = nt → wl_MO_writeHead_48 post (dd + 1) (nI (cnt (shG 0 D) k)) (nI k) M6 := by
    intro dd
    induction dd with
    | zero =>
      intro k hk
      have ek : k = nt := by omega
      subst ek
      unfold wl_MO_writeHead_48
      rw [cl_0, L6.1 46 0 (by omega), d.2.2.1.2.2.1]
      refine ⟨in_02, q_le (fun _ => q_le (b := 0) (fun c => ?_) (fun c => ?_)) (fun c => by omega)⟩
      · unfold flW at fin; rw [if_pos c] at fin; exact fin
      · unfold flW at fin; rw [if_neg (by omega)] at fin; exact fin
    | succ dd ih =>
      intro k hk
      have hs := ih (k + 1) (by omega)
      obtain ⟨v, v1, v2, v3, v4⟩ := sh_in d no (show k < nt by omega)
      unfold wl_MO_writeHead_48
      rw [cl_0, L6.1 46 0 (by omega), d.2.2.1.2.2.1, nI_clamp (by omega), L6.1 45 k (by omega), v1, nI_clamp (by omega), L6.1 42 v (by omega)]
      refine ⟨in_02, q_le (fun c => by omega) (fun _ => ⟨vp_in_nI (by omega) (by omega), vp_in_nI (by omega) (by omega), m_sh ?_⟩)⟩
      have eg : shG 0 D k = !decide ((D 42 v &&& (3 : Int32)) = 3) := by
        unfold shG
        rw [show 1024 * 0 + k = k by omega, v1, ti_nI (by omega), show 6144 * 0 + (v : Int).toNat = v by omega]
      rw [show cnt (shG 0 D) (k + 1) = cnt (shG 0 D) k + if shG 0 D k = true then 1 else 0 from rfl] at hs
      rw [← eg]
      refine q_b (fun z => q_x (q_x ?_)) (fun z => q_x (q_x ?_))
      · rw [z, if_neg (by decide)] at hs
        rw [nI_1, show nI (cnt (shG 0 D) k) + (0 : Int32) = nI (cnt (shG 0 D) k + 0) from nI_add _ 0]; exact hs
      · rw [z, if_pos rfl] at hs
        rw [nI_1, nI_1]; exact hs
  exact ⟨nt + 1, go nt 0 (by omega)⟩
theorem mW_cp {M1 : gMem} {p i : Nat} {w : Nat → Int32} (h : mW n M (cp F p i w)) (e : M1 = va_up M 62 (upd (M 62) (p + i) (w i))) : mW n M1 (cp F p (i + 1) w) := by
  refine ⟨h.1, fun k hk => ?_⟩
  unfold cp
  by_cases c : k = p + i
  · subst c
    rw [if_pos (by omega), show p + i - p = i by omega]; exact u_at e
  · rw [u_ne e, h.2 k hk]
    unfold cp
    by_cases c2 : p ≤ k ∧ k < p + i
    · rw [if_pos c2, if_pos (by omega)]
    · rw [if_neg c2, if_neg (by omega)]
theorem m_text {post : Int32 → gMem → Prop} {v2 v3 : Int32} (L : mL D nt ns nr n M) (d : dW D nt ns nr) (hn : n = szF D nt ns nr) (C : mW n M F) (H : ∀ M', fr sf2 M M' → mW n M' (txF D nt ns nr F 3) → ∃ n9 : Nat, wl_MO_write_151 post n9 v2 v3 (0 : Int32) M') : ∃ n9 : Nat, wl_MO_write_86 post n9 v2 v3 (0 : Int32) M := by
  have hE : tbP D nt ns nr ≤ n := by rw [hn]; unfold szF; omega
  have h8 := C.1
  refine pk_loop (fun k s M' => wl_MO_write_86 post k v2 v3 (nI s) M') (fun s M' => fr sf2 M M' ∧ mW n M' (txF D nt ns nr F s)) 3 0 M (by omega) ⟨fr.refl, C⟩ ?_ ?_
  · rintro k M' ⟨h1, h2⟩
    unfold wl_MO_write_86
    exact q_le (a := 3) (fun _ => H M' h1 h2) (fun c => by omega)
  · rintro k s M' hs ⟨h1, h2⟩ K
    have ls := lnS_e d (show s < 4 by omega)
    have hb := bg_in d (show s < 11 by omega) (by omega) (th_4 (by omega))
    rw [lnP_s (by omega)] at hb
    have l2 := ls.2.2.1 hs
    unfold wl_MO_write_86
    refine q_le (a := 3) (fun c => by omega) (fun _ => ?_)
    refine pk_loop (fun k2 i N => wl_MO_write_95 post (wl_MO_write_86 post k) k2 v2 v3 (nI s) (nI i) N) (fun i N => fr sf2 M N ∧ mW n N (cp (txF D nt ns nr F s) (bgP D nt ns nr s) i (fun i => D 42 (2048 * s + i)))) (lnS D s) 0 M' (by omega) ⟨h1, by rw [cp_0]; exact h2⟩ ?_ ?_
    · rintro k2 N ⟨g1, g2⟩
      have LN := mL_2 g1 L
      unfold wl_MO_write_95
      rw [nI_clamp (by omega), LN.1 43 s (by omega), ls.1, nI_1]
      exact ⟨vp_in_nI (by omega) (by omega), q_le (fun _ => q_x (K N ⟨g1, g2⟩)) (fun c => by omega)⟩
    · rintro k2 i N hi ⟨g1, g2⟩ K2
      have LN := mL_2 g1 L
      unfold wl_MO_write_95
      rw [nI_clamp (by omega), LN.1 43 s (by omega), ls.1, show nI i + (1 : Int32) = nI (i + 1) from nI_1 i, LN.2.2.1 s (by omega) (th_4 (by omega)), nI_add, show (2048 : Int32) * nI s = nI (2048 * s) from pk_mul 2048 s, show nI (2048 * s) + nI i = nI (2048 * s + i) from nI_add _ _, nI_clamp (show bgP D nt ns nr s + i < 2 ^ 31 by omega), nI_clamp (show 2048 * s + i < 2 ^ 31 by omega), LN.1 42 _ (by omega)]
      refine ⟨vp_in_nI (by omega) (by omega), q_le (fun c => by omega) (fun _ => ⟨vp_in_nI (by omega) (by omega), vp_in_nI (by omega) (by omega), vp_in_nI (by omega) (by omega), fun N2 e2 => q_x (K2 N2 ⟨g1.trans (by rw [e2]; exact fr_upd rfl), mW_cp g2 e2⟩)⟩)⟩
theorem m_starts2 {post : Int32 → gMem → Prop} {v2 v3 : Int32} (L : mL D nt ns nr n M) (d : dW D nt ns nr) (hn : n = szF D nt ns nr) (C : mW n M F) (H : ∀ M', fr sf2 M M' → mW n M' (stF D nt ns nr F nt) → ∃ n9 : Nat, wl_MO_write_193 post n9 v2 v3 (0 : Int32) M') : ∃ n9 : Nat, wl_MO_write_151 post n9 v2 v3 (0 : Int32) M := by
  have hE : tbP D nt ns nr ≤ n := by rw [hn]; unfold szF; omega
  have h8 := C.1
  have hnt := d.2.2.1.1
  refine pk_loop (fun k s M' => wl_MO_write_151 post k v2 v3 (nI s) M') (fun s M' => fr sf2 M M' ∧ mW n M' (stF D nt ns nr F s)) nt 0 M (by omega) ⟨fr.refl, C⟩ ?_ ?_
  · rintro k M' ⟨h1, h2⟩
    have L1 := mL_2 h1 L
    unfold wl_MO_write_151
    rw [cl_0, L1.1 46 0 (by omega), d.2.2.1.2.2.1]
    exact ⟨in_02, q_le (fun _ => H M' h1 h2) (fun c => by omega)⟩
  · rintro k s M' hs ⟨h1, h2⟩ K
    have L1 := mL_2 h1 L
    have hb := bg_in d (show 4 < 11 by omega) (by omega) (th_nt (show 0 < nt by omega))
    rw [lnP_4] at hb
    unfold wl_MO_write_151
    rw [cl_0, L1.1 46 0 (by omega), d.2.2.1.2.2.1, nI_1, cl_4, nI_clamp (by omega), L1.2.2.1 4 (by omega) (th_nt (by omega)), L1.1 45 s (by omega), show (2 : Int32) * nI s = nI (2 * s) from pk_mul 2 s, nI_add]
    exact ⟨in_02, q_le (fun c => by omega) (fun _ => ⟨in_4, vp_in_nI (by omega) (by omega), m_p2 h2 (fun M2 f2 C2 => q_x (K M2 ⟨h1.trans f2, C2⟩))⟩)⟩
theorem m_rel1 {post : gMem → Prop} {s : Nat} (L : mL D nt ns nr n M) (d : dW D nt ns nr) (hn : n = szF D nt ns nr) (hs : s < 3) (C : mW n M F) (H : ∀ M', fr sf2 M M' → mW n M' (rlF D nt ns nr s F nr) → post M') : wp_MO_writeRelocations post (nI s) M := by
  have hE : tbP D nt ns nr ≤ n := by rw [hn]; unfold szF; omega
  have h8 := C.1
  have e := d.2.2.2.2
  have hnr := e.1
  have hns := d.2.2.2.1.1
  have go : ∀ dd x (v2 : Int32) (M' : gMem), x + dd = nr → (thW (W9 D nt ns nr) (5 + s) = true → v2 = nI (bgP D nt ns nr (5 + s) + 12 * cnt (isS D s) x)) → fr sf2 M M' → mW n M' (rlF D nt ns nr s F x) → wl_MO_writeRelocations_11 post (dd + 1) (nI s) v2 (nI x) M' := by
    intro dd
    induction dd with
    | zero =>
      intro x v2 M' hx hv f C'
      have L1 := mL_2 f L
      have ex : x = nr := by omega
      subst ex
      unfold wl_MO_writeRelocations_11
      rw [cl_0, L1.1 60 0 (by omega), e.2.2.1]
      exact ⟨in_02, q_le (fun _ => H M' f C') (fun c => by omega)⟩
    | succ dd ih =>
      intro x v2 M' hx hv f C'
      have L1 := mL_2 f L
      have ec : cnt (isS D s) (x + 1) = cnt (isS D s) x + if isS D s x = true then 1 else 0 := rfl
      have er : rlF D nt ns nr s F (x + 1) = if isS D s x = true then w4 (w4 (w4 (rlF D nt ns nr s F x) (bgP D nt ns nr (5 + s) + 12 * cnt (isS D s) x) (D 56 x)) (bgP D nt ns nr (5 + s) + 12 * cnt (isS D s) x + 4) ((256 : Int32) * rlv D ns x + D 57 x)) (bgP D nt ns nr (5 + s) + 12 * cnt (isS D s) x + 8) (D 59 x) else rlF D nt ns nr s F x := rfl
      have v6 : vp_in (nI x) 600 := vp_in_nI (by omega) (by omega)
      unfold wl_MO_writeRelocations_11
      rw [cl_0, L1.1 60 0 (by omega), e.2.2.1, show nI x + (1 : Int32) = nI (x + 1) from nI_1 x, nI_clamp (show x < 2 ^ 31 by omega), L1.1 55 x (by omega), L1.1 56 x (by omega)]
      refine ⟨in_02, q_le (fun c => by omega) (fun _ => ⟨v6, fun c => ⟨v6, ?_⟩, fun c => q_x ?_⟩)⟩
      · have hi : isS D s x = true := decide_eq_true c
        rw [hi, if_pos rfl] at ec er
        have hin := rl_in2 d hs (show x < nr by omega) hi
        rw [hv hin.1]
        generalize hP : bgP D nt ns nr (5 + s) + 12 * cnt (isS D s) x = P at er hin
        refine m_p4 C' (fun M1 f1 C1 => ⟨v6, ?_⟩)
        have L2 := mL_2 f1 L1
        have fin : ∀ s0 : Int32, s0 = rlv D ns x → wj_MO_writeRelocations_79 post (wl_MO_writeRelocations_11 post (dd + 1)) (nI s) (nI P) (nI x) s0 (256 : Int32) (nI P + (4 : Int32)) M1 := by
          intro s0 es
          subst es
          unfold wj_MO_writeRelocations_79
          rw [nI_clamp (show x < 2 ^ 31 by omega), L2.1 57 x (by omega), i4, i8, i12, show nI x + (1 : Int32) = nI (x + 1) from nI_1 x]
          refine ⟨v6, m_p4 C1 (fun M2 f2 C2 => ⟨v6, ?_⟩)⟩
          have L3 := mL_2 f2 L2
          rw [L3.1 59 x (by omega)]
          refine m_p4 C2 (fun M3 f3 C3 => q_x (q_x ?_))
          refine ih (x + 1) _ M3 (by omega) (fun _ => ?_) (f.trans (f1.trans (f2.trans f3))) (by rw [er]; exact C3)
          rw [ec, ← hP]; congr 1
        rw [L2.1 58 x (by omega)]
        rcases sy_in d (show x < nr by omega) with c58 | ⟨y, hy, e58, ev⟩
        · exact q_t' c58 (fin 0 (by unfold rlv; rw [if_pos c58]))
        · have n1 : ¬ D 58 x = -1 := by
            rw [e58]; intro q
            have := congrArg Int32.toInt q
            rw [ti_nI (by omega), show (-1 : Int32).toInt = -1 from rfl] at this
            omega
          refine q_f' n1 ⟨v6, by rw [e58]; exact vp_in_nI (by omega) (by omega), ?_⟩
          rw [e58, nI_clamp (by omega), L2.2.2.2.2.2.2.2.1 y hy, show (1 : Int32) + nI (tn D ns y) = nI (1 + tn D ns y) from nI_add 1 _, Nat.add_comm 1, ← ev]
          exact fin _ rfl
      · have hi : isS D s x = false := decide_eq_false c
        rw [hi, if_neg (by decide)] at ec er
        exact ih (x + 1) v2 M' (by omega) (fun t => by rw [ec]; exact hv t) f (by rw [er]; exact C')
  unfold wp_MO_writeRelocations
  refine ⟨by rw [show (5 : Int32) + nI s = nI (5 + s) from nI_add 5 s]; exact vp_in_nI (by omega) (by omega), q_x ⟨nr + 1, go nr 0 _ M (by omega) (fun t => ?_) fr.refl C⟩⟩
  rw [show (5 : Int32) + nI s = nI (5 + s) from nI_add 5 s, nI_clamp (by omega), L.2.2.1 (5 + s) (by omega) t]
  rfl
theorem m_syms2 {post : gMem → Prop} (L : mL D nt ns nr n M) (d : dW D nt ns nr) (hn : n = szF D nt ns nr) (C : mW n M F) (H : ∀ M', fr sf2 M M' → mW n M' (syF D nt ns nr F) → post M') : wp_MO_writeSymbols post M := by
  have hE : tbP D nt ns nr ≤ n := by rw [hn]; unfold szF; omega
  have h8 := C.1
  have u := d.2.2.2.1
  have hns := u.1
  have hb := bg_in d (show 8 < 11 by omega) (by omega) (th_8 (by omega))
  rw [lnP_8] at hb
  unfold wp_MO_writeSymbols
  refine pk_loop (fun k x M' => wl_MO_writeSymbols_2 post k (nI x) M') (fun x M' => fr sf2 M M' ∧ mW n M' (syM D nt ns nr F x)) ns 0 M (by omega) ⟨fr.refl, C⟩ ?_ ?_
  · rintro k M' ⟨h1, h2⟩
    have L1 := mL_2 h1 L
    rw [syM_e] at h2
    unfold wl_MO_writeSymbols_2
    rw [cl_0, L1.1 54 0 (by omega), u.2.2.1]
    exact ⟨in_02, q_le (fun _ => H M' h1 h2) (fun c => by omega)⟩
  · rintro k x M' hx ⟨h1, h2⟩ K
    have L1 := mL_2 h1 L
    have ht := tn_lt (M := D) hx
    have v1 : vp_in (nI x) 100 := vp_in_nI (by omega) (by omega)
    have v2 : vp_in (nI x) 200 := vp_in_nI (by omega) (by omega)
    unfold wl_MO_writeSymbols_2
    rw [cl_0, L1.1 54 0 (by omega), u.2.2.1, cl_8, nI_clamp (show x < 2 ^ 31 by omega), L1.2.2.1 8 (by omega) (th_8 (by omega)), L1.2.2.2.2.2.2.2.1 x hx, L1.2.2.2.2.2.2.1 x hx, i16, show (16 : Int32) * nI (tn D ns x) = nI (16 * tn D ns x) from pk_mul 16 _, nI_add, show nI x + (1 : Int32) = nI (x + 1) from nI_1 x]
    have es : syM D nt ns nr F (x + 1) = rowF D (syM D nt ns nr F x) (bgP D nt ns nr 8 + 16 + 16 * tn D ns x) x (nI (plN D ns (tn D ns x))) (whv D nt ns nr x) := rfl
    generalize hP : bgP D nt ns nr 8 + 16 + 16 * tn D ns x = P at es
    refine ⟨in_02, q_le (fun c => by omega) (fun _ => ⟨in_8, v1, q_x ⟨v1, m_p4 h2 (fun M3 f3 C3 => ⟨v2, ?_⟩)⟩⟩)⟩
    have L3 := mL_2 f3 L1
    rw [i4, i8, i12, i14, L3.1 48 x (by omega)]
    refine m_p4 C3 (fun M5 f5 C5 => ⟨v2, ?_⟩)
    have L5 := mL_2 f5 L3
    rw [L5.1 49 x (by omega)]
    refine m_p4 C5 (fun M7 f7 C7 => ⟨v2, v2, ?_⟩)
    have L7 := mL_2 f7 L5
    rw [L7.1 50 x (by omega), L7.1 51 x (by omega)]
    refine m_p1 C7 (fun M9 f9 C9 => ⟨v2, ?_⟩)
    have L9 := mL_2 f9 L7
    have fA : fr sf2 M M9 := h1.trans (f3.trans (f5.trans (f7.trans f9)))
    have go : ∀ w : Int32, w = whv D nt ns nr x → wp_MO_write2 (fun M11 => ∀ x12 : Int32, x12 = nI (x + 1) → wl_MO_writeSymbols_2 post k x12 M11) (nI (P + 14)) w M9 := by
      intro w ew
      subst ew
      exact m_p2 C9 (fun Ma fa Ca => q_x (K Ma ⟨fA.trans fa, by rw [es]; exact Ca⟩))
    rw [L9.1 47 x (by omega)]
    rcases w47 d hx with c | ⟨w, hw, e⟩
    · exact q_t' c (go 0 (by unfold whv; rw [if_pos c]))
    · have n1 : ¬ D 47 x = -1 := by
        rw [e]; intro q
        have := congrArg Int32.toInt q
        rw [ti_nI (by omega), show (-1 : Int32).toInt = -1 from rfl] at this
        omega
      have ew : whv D nt ns nr x = if D 47 x = 4 then 65521 else if D 47 x = 5 then 65522 else nI (enW (W9 D nt ns nr) w) := by
        unfold whv
        rw [if_neg n1, e, ti_nI (by omega)]
        rfl
      refine q_f' n1 ⟨v2, ?_⟩
      rw [e] at ew ⊢
      refine q_le (a := 4) (fun c4 => ⟨v2, q_ne (b := 4) (fun c5 => go _ ?_) (fun c5 => go _ ?_)⟩) (fun c4 => ⟨v2, vp_in_nI (by omega) (by omega), ?_⟩)
      · have n4 : ¬ nI w = (4 : Int32) := fun q => c5 ((nI_eq (show w < 2 ^ 31 by omega) (show 4 < 2 ^ 31 by omega)).mp q)
        rw [ew, if_neg n4, if_pos (by rw [show w = 5 by omega]; rfl)]
      · rw [ew, if_pos (by rw [c5]; rfl)]
      · rw [nI_clamp (by omega), L9.2.2.2.2.1 w (by omega)]
        refine go _ ?_
        have n4 : ¬ nI w = (4 : Int32) := fun q => by have := (nI_eq (show w < 2 ^ 31 by omega) (show 4 < 2 ^ 31 by omega)).mp q; omega
        have n5 : ¬ nI w = (5 : Int32) := fun q => by have := (nI_eq (show w < 2 ^ 31 by omega) (show 5 < 2 ^ 31 by omega)).mp q; omega
        rw [ew, if_neg n4, if_neg n5]
theorem m_c224 {post : Int32 → gMem → Prop} {v2 v3 : Int32} {l : Nat} (L : mL D nt ns nr n M) (S : ∀ k, k < l → M 68 k = (SL (W9 D nt ns nr) 11).1 k) (hl : l = (SL (W9 D nt ns nr) 11).2) (d : dW D nt ns nr) (hn : n = szF D nt ns nr) (C : mW n M F) (H : ∀ M', fr sf2 M M' → mW n M' (s10F D nt ns nr F) → wp_MO_sizeOfSymbolNames (fun r14 M15 => ∃ n9 : Nat, wl_MO_write_268 post n9 v2 v3 r14 (0 : Int32) M15) M') : ∃ n9 : Nat, wl_MO_write_224 post n9 v2 v3 (nI l) (0 : Int32) M := by
  have hE : tbP D nt ns nr ≤ n := by rw [hn]; unfold szF; omega
  have h8 := C.1
  have b10 := bg_in d (show 10 < 11 by omega) (by omega) (th_8 (by omega))
  rw [lnP_10, ← hl] at b10
  have l10 := SL_L (W := W9 D nt ns nr) (Nat.le_refl 11)
  refine pk_loop (fun k i N => wl_MO_write_224 post k v2 v3 (nI l) (nI i) N) (fun i N => fr sf2 M N ∧ mW n N (cp F (bgP D nt ns nr 10) i (SL (W9 D nt ns nr) 11).1)) l 0 M (by omega) ⟨fr.refl, by rw [cp_0]; exact C⟩ ?_ ?_
  · rintro k N ⟨g1, g2⟩
    unfold wl_MO_write_224
    refine q_le (fun _ => H N g1 ?_) (fun c => by omega)
    unfold s10F
    rw [← hl]; exact g2
  · rintro k i N hi ⟨g1, g2⟩ K
    have LN := mL_2 g1 L
    unfold wl_MO_write_224
    rw [show ((10 : Int32)).toNatClampNeg = 10 from rfl, LN.2.2.1 10 (by omega) (th_8 (by omega)), nI_add, nI_1, nI_clamp (show i < 2 ^ 31 by omega), nI_clamp (show bgP D nt ns nr 10 + i < 2 ^ 31 by omega), g1 68 i (by unfold sf2; omega), S i hi]
    exact q_le (fun c => by omega) (fun _ => ⟨vp_in_nI (n := 10) (by omega) (by omega), vp_in_nI (by omega) (by omega), vp_in_nI (by omega) (by omega), fun N2 e2 => q_x (K N2 ⟨g1.trans (by rw [e2]; exact fr_upd rfl), mW_cp g2 e2⟩)⟩)
theorem m_c268 {post : Int32 → gMem → Prop} {v2 v3 : Int32} {l : Nat} (L : mL D nt ns nr n M) (S : ∀ k, k < l → M 68 k = (SN D ns ns).1 k) (hl : l = (SN D ns ns).2) (d : dW D nt ns nr) (hn : n = szF D nt ns nr) (C : mW n M F) (H : ∀ M', fr sf2 M M' → mW n M' (s9F D nt ns nr F) → ∃ n9 : Nat, wl_MO_write_306 post n9 v2 v3 (0 : Int32) M') : ∃ n9 : Nat, wl_MO_write_268 post n9 v2 v3 (nI l) (0 : Int32) M := by
  have hE : tbP D nt ns nr ≤ n := by rw [hn]; unfold szF; omega
  have h8 := C.1
  have hns := d.2.2.2.1.1
  have b9 := bg_in d (show 9 < 11 by omega) (by omega) (th_8 (by omega))
  rw [lnP_9, ← hl] at b9
  have l9 := SN_L d.2.2.2.1 (Nat.le_refl ns)
  refine pk_loop (fun k i N => wl_MO_write_268 post k v2 v3 (nI l) (nI i) N) (fun i N => fr sf2 M N ∧ mW n N (cp F (bgP D nt ns nr 9) i (SN D ns ns).1)) l 0 M (by omega) ⟨fr.refl, by rw [cp_0]; exact C⟩ ?_ ?_
  · rintro k N ⟨g1, g2⟩
    unfold wl_MO_write_268
    refine q_le (fun _ => H N g1 ?_) (fun c => by omega)
    unfold s9F
    rw [← hl]; exact g2
  · rintro k i N hi ⟨g1, g2⟩ K
    have LN := mL_2 g1 L
    unfold wl_MO_write_268
    rw [cl_9, LN.2.2.1 9 (by omega) (th_8 (by omega)), nI_add, nI_1, nI_clamp (show i < 2 ^ 31 by omega), nI_clamp (show bgP D nt ns nr 9 + i < 2 ^ 31 by omega), g1 68 i (by unfold sf2; omega), S i hi]
    exact q_le (fun c => by omega) (fun _ => ⟨in_9, vp_in_nI (by omega) (by omega), vp_in_nI (by omega) (by omega), fun N2 e2 => q_x (K N2 ⟨g1.trans (by rw [e2]; exact fr_upd rfl), mW_cp g2 e2⟩)⟩)
/-! entries -/
theorem m_sort {post : Int32 → gMem → Prop} {p : Nat} (hp : p < 11) (H : post (gTb3.getD p 0) M) : wp_MO_sortOf post (nI p) M := by
  unfold wp_MO_sortOf wj_MO_sortOf_25
  rcases (by omega : p = 0 ∨ p = 1 ∨ p = 2 ∨ p = 3 ∨ p = 4 ∨ p = 5 ∨ p = 6 ∨ p = 7 ∨ p = 8 ∨ p = 9 ∨ p = 10) with e | e | e | e | e | e | e | e | e | e | e
  all_goals
    subst e
    repeat (first | exact H | refine q_f (by decide) ?_ | refine q_t (by decide) ?_ | refine q_f' (by decide) ?_ | refine q_t' (by decide) ?_)
theorem m_flags {post : Int32 → gMem → Prop} {p : Nat} (hp : p < 11) (H : post (gTb1.getD p 0) M) : wp_MO_flagsOf post (nI p) M := by
  unfold wp_MO_flagsOf
  rcases (by omega : p = 0 ∨ p = 1 ∨ p = 2 ∨ p = 3 ∨ p = 4 ∨ p = 5 ∨ p = 6 ∨ p = 7 ∨ p = 8 ∨ p = 9 ∨ p = 10) with e | e | e | e | e | e | e | e | e | e | e
  all_goals
    subst e
    repeat (first | exact H | refine q_f (by decide) ?_ | refine q_t (by decide) ?_ | refine q_f' (by decide) ?_ | refine q_t' (by decide) ?_)
theorem m_each {post : Int32 → gMem → Prop} {p : Nat} (hp : p < 11) (H : post (gTb4.getD p 0) M) : wp_MO_eachOf post (nI p) M := by
  unfold wp_MO_eachOf wj_MO_eachOf_25
  rcases (by omega : p = 0 ∨ p = 1 ∨ p = 2 ∨ p = 3 ∨ p = 4 ∨ p = 5 ∨ p = 6 ∨ p = 7 ∨ p = 8 ∨ p = 9 ∨ p = 10) with e | e | e | e | e | e | e | e | e | e | e
  all_goals
    subst e
    repeat (first | exact H | refine q_f (by decide) ?_ | refine q_t (by decide) ?_ | refine q_f' (by decide) ?_ | refine q_t' (by decide) ?_)
theorem m_entryW {post : gMem → Prop} {p : Nat} (hp : p < 11) (ht : thW (W9 D nt ns nr) p = true) (L : mL D nt ns nr n M) (d : dW D nt ns nr) (hn : n = szF D nt ns nr) (C : mW n M F) (H : ∀ M', fr sf2 M M' → mW n M' (enF D nt ns nr F p (tbP D nt ns nr + 40 * enW (W9 D nt ns nr) p)) → post M') : wp_MO_writeEntry post (nI p) (nI (tbP D nt ns nr + 40 * enW (W9 D nt ns nr) p)) (nI (cnt (lc D) ns)) M := by
  have he := en_in (D := D) (nt := nt) (ns := ns) (nr := nr) hp
  have hx : tbP D nt ns nr + 40 * enW (W9 D nt ns nr) p + 40 ≤ n := by rw [hn]; unfold szF; omega
  have h8 := C.1
  have vp : vp_in (nI p) 11 := vp_in_nI (by omega) (by omega)
  generalize hX : tbP D nt ns nr + 40 * enW (W9 D nt ns nr) p = x at H hx
  have k : ∀ a : Nat, nI x + nI a = nI (x + a) := fun a => nI_add x a
  have g196 : ∀ (N : gMem) (G : Nat → Int32), fr sf2 M N → mW n N G → w4 (w4 G (x + 32) (nI (alP D p))) (x + 36) (gTb4.getD p 0) = enF D nt ns nr F p x → wj_MO_writeEntry_196 post (nI p) (nI x) (nI (alP D p)) (nI (x + 32)) N := by
    intro N G f CG eG
    unfold wj_MO_writeEntry_196
    refine m_p4 CG (fun N1 f1 C1 => m_each hp ?_)
    rw [show nI x + (36 : Int32) = nI (x + 36) from k 36]
    exact m_p4 C1 (fun N2 f2 C2 => H N2 (f.trans (f1.trans f2)) (by rw [← eG]; exact C2))
  have g154 : ∀ (N : gMem) (G : Nat → Int32), fr sf2 M N → mW n N G → w4 (w4 (w4 G (x + 28) (ifP D nt ns nr p)) (x + 32) (nI (alP D p))) (x + 36) (gTb4.getD p 0) = enF D nt ns nr F p x → wj_MO_writeEntry_154 post (nI p) (nI x) (ifP D nt ns nr p) (nI (x + 28)) N := by
    intro N G f CG eG
    unfold wj_MO_writeEntry_154
    refine m_p4 CG (fun N1 f1 C1 => ?_)
    have g := g196 N1 _ (f.trans f1) C1 eG
    have L1 := mL_2 (f.trans f1) L
    rw [show nI x + (32 : Int32) = nI (x + 32) from k 32]
    refine q_le (a := 4) (fun c4 => ?_) (fun c4 => ⟨vp_in_nI (by omega) (by omega), ?_⟩)
    · unfold alP at g
      rw [if_neg (by omega)] at g
      refine q_ne (b := 4) (fun c => q_le (a := 9) (fun c9 => ?_) (fun c9 => ?_)) (fun c => ?_)
      · rw [if_neg c, if_neg (by omega)] at g; exact g
      · rw [if_neg c, if_pos c9] at g; exact g
      · rw [if_pos c] at g; exact g
    · rw [nI_clamp (by omega), L1.1 44 p (by omega), ((alP_e d (p := p)).2 c4).1]; exact g
  have g117 : ∀ (s0 : Int32) (N : gMem) (G : Nat → Int32), (s0 = 0 ↔ ¬ (5 ≤ p ∧ p < 8)) → fr sf2 M N → mW n N G → w4 (w4 (w4 (w4 G (x + 24) (lkP D nt ns nr p)) (x + 28) (ifP D nt ns nr p)) (x + 32) (nI (alP D p))) (x + 36) (gTb4.getD p 0) = enF D nt ns nr F p x → wj_MO_writeEntry_117 post (nI p) (nI x) (nI (cnt (lc D) ns)) s0 (lkP D nt ns nr p) (nI (x + 24)) N := by
    intro s0 N G hs0 f CG eG
    unfold wj_MO_writeEntry_117
    refine m_p4 CG (fun N1 f1 C1 => ?_)
    have g := g154 N1 _ (f.trans f1) C1 eG
    have L1 := mL_2 (f.trans f1) L
    rw [show nI x + (28 : Int32) = nI (x + 28) from k 28]
    refine ⟨fun c => ?_, fun c => ?_⟩
    · unfold ifP at g
      rw [if_neg (hs0.mp c)] at g
      rw [show (1 : Int32) + nI (cnt (lc D) ns) = nI (1 + cnt (lc D) ns) from nI_add 1 _]
      refine q_ne (b := 8) (fun c8 => ?_) (fun c8 => ?_)
      · rw [if_neg c8] at g; exact g
      · rw [if_pos c8] at g; exact g
    · have c5 : 5 ≤ p ∧ p < 8 := Classical.byContradiction fun w => c (hs0.mpr w)
      unfold ifP at g
      rw [if_pos c5] at g
      rw [show nI p - (5 : Int32) = nI (p - 5) from pk_sub (b := 5) (by omega), nI_clamp (by omega), L1.2.2.2.2.1 (p - 5) (by omega)]
      exact ⟨vp_in_nI (by omega) (by omega), g⟩
  have g16 : ∀ s0 : Int32, (s0 = 0 ↔ ¬ (5 ≤ p ∧ p < 8)) → wj_MO_writeEntry_16 post (nI p) (nI x) (nI (cnt (lc D) ns)) s0 M := by
    intro s0 hs0
    unfold wj_MO_writeEntry_16
    rw [nI_clamp (by omega), L.2.2.2.2.2.2.2.2.1 p hp ht]
    refine ⟨vp, m_p4 C (fun N1 f1 C1 => m_sort hp ?_)⟩
    rw [i4]
    refine m_p4 C1 (fun N2 f2 C2 => m_flags hp ?_)
    rw [i8]
    refine m_p4 C2 (fun N3 f3 C3 => ⟨vp, ?_⟩)
    have L3 := mL_2 (f1.trans (f2.trans f3)) L
    rw [i16, L3.2.2.1 p hp ht]
    refine m_p4 C3 (fun N4 f4 C4 => ⟨vp, ?_⟩)
    have L4 := mL_2 f4 L3
    rw [show nI x + (20 : Int32) = nI (x + 20) from k 20, L4.2.2.2.1 p hp]
    refine m_p4 C4 (fun N5 f5 C5 => ?_)
    have L5 := mL_2 f5 L4
    have g := g117 s0 N5 _ hs0 (f1.trans (f2.trans (f3.trans (f4.trans f5)))) C5 rfl
    rw [show nI x + (24 : Int32) = nI (x + 24) from k 24, cl_8, cl_9, L5.2.2.2.2.1 8 (by omega), L5.2.2.2.2.1 9 (by omega)]
    refine ⟨fun c => ?_, fun c => ⟨in_8, ?_⟩⟩
    · unfold lkP at g
      rw [if_neg (hs0.mp c)] at g
      refine q_ne (b := 8) (fun c8 => ?_) (fun c8 => ⟨in_9, ?_⟩)
      · rw [if_neg c8] at g; exact g
      · rw [if_pos c8] at g; exact g
    · have c5 : 5 ≤ p ∧ p < 8 := Classical.byContradiction fun w => c (hs0.mpr w)
      unfold lkP at g
      rw [if_pos c5] at g
      exact g
  unfold wp_MO_writeEntry wj_MO_writeEntry_15
  exact q_lt (b := 5) (fun c => g16 0 ⟨fun _ => by omega, fun _ => rfl⟩) (fun c => q_le (a := 8) (fun c8 => g16 0 ⟨fun _ => by omega, fun _ => rfl⟩) (fun c8 => g16 1 ⟨fun w => absurd w (by decide), fun w => absurd ⟨c, c8⟩ w⟩))
theorem m_table {post : Int32 → gMem → Prop} (L : mL D nt ns nr n M) (d : dW D nt ns nr) (hn : n = szF D nt ns nr) (C : mW n M F) (H : ∀ M', fr sf2 M M' → mW n M' (taF D nt ns nr F 11) → post (nI n) M') : ∃ n9 : Nat, wl_MO_write_306 post n9 (nI (tbP D nt ns nr)) (nI (cnt (lc D) ns)) (0 : Int32) M := by
  have h8 := C.1
  refine pk_loop (fun k p M' => wl_MO_write_306 post k (nI (tbP D nt ns nr)) (nI (cnt (lc D) ns)) (nI p) M') (fun p M' => fr sf2 M M' ∧ mW n M' (taF D nt ns nr F p)) 11 0 M (by omega) ⟨fr.refl, C⟩ ?_ ?_
  · rintro k M' ⟨h1, h2⟩
    have L1 := mL_2 h1 L
    unfold wl_MO_write_306
    rw [L1.2.2.2.2.2.2.2.2.2]
    exact q_le (a := 11) (fun _ => H M' h1 h2) (fun c => by omega)
  · rintro k p M' hp ⟨h1, h2⟩ K
    have L1 := mL_2 h1 L
    have he := en_le (W := W9 D nt ns nr) (p := p)
    have et : taF D nt ns nr F (p + 1) = if thW (W9 D nt ns nr) p = true then enF D nt ns nr (taF D nt ns nr F p) p (tbP D nt ns nr + 40 * enW (W9 D nt ns nr) p) else taF D nt ns nr F p := rfl
    unfold wl_MO_write_306
    rw [nI_clamp (by omega), L1.2.2.2.2.1 p hp, show nI p + (1 : Int32) = nI (p + 1) from nI_1 p, show (40 : Int32) * nI (enW (W9 D nt ns nr) p) = nI (40 * enW (W9 D nt ns nr) p) from pk_mul 40 _, nI_add]
    refine q_le (a := 11) (fun c => by omega) (fun _ => ⟨vp_in_nI (by omega) (by omega), q_le (b := 0) (fun c => q_x ?_) (fun c => ⟨vp_in_nI (by omega) (by omega), ?_⟩)⟩)
    · have ht : thW (W9 D nt ns nr) p = false := by
        cases e : thW (W9 D nt ns nr) p
        · rfl
        · rw [enW, e, if_pos rfl] at c; omega
      rw [ht, if_neg (by decide)] at et
      exact K M' ⟨h1, by rw [et]; exact h2⟩
    · have ht : thW (W9 D nt ns nr) p = true := by
        cases e : thW (W9 D nt ns nr) p
        · rw [enW, e, if_neg (by decide)] at c; omega
        · rfl
      rw [ht, if_pos rfl] at et
      exact m_entryW hp ht L1 d hn h2 (fun M2 f2 C2 => q_x (K M2 ⟨h1.trans f2, by rw [et]; exact C2⟩))
/-! all of it -/
def sWm (c j : Nat) : Prop := c = 62 ∨ (65 ≤ c ∧ c ≤ 72) ∨ (c = 41 ∧ (j = 22 ∨ j = 30 ∨ j = 32 ∨ j = 40))
theorem dW_eq (E : eqD D M) (d : dW D nt ns nr) : dW M nt ns nr := by
  obtain ⟨z, y, t, u, e⟩ := d
  have o : ∀ c j, (1 ≤ c ∧ c ≤ 8 ∨ 42 ≤ c ∧ c ≤ 60) → M c j = D c j := fun c j h => E c j (by omega)
  refine ⟨fun s hs => ?_, fun s k hs hk => ?_, ⟨t.1, by rw [o 1 4 (by omega)]; exact t.2.1, by rw [o 46 0 (by omega)]; exact t.2.2.1, fun k hk => ?_, fun k hk => ?_⟩, dSy_fr (fun c j h => o c j (by omega)) u, ⟨e.1, by rw [o 1 9 (by omega)]; exact e.2.1, by rw [o 60 0 (by omega)]; exact e.2.2.1, fun x hx => ?_⟩⟩
  · rw [o 3 s (by omega), o 43 s (by omega), o 4 s (by omega), o 44 s (by omega)]; exact z s hs
  · rw [o 43 s (by omega)] at hk
    rw [o 2 _ (by omega), o 42 _ (by omega)]; exact y s k hs hk
  · rw [o 5 k (by omega), o 45 k (by omega)]; exact t.2.2.2.1 k hk
  · rw [o 45 k (by omega), o 45 (k + 1) (by omega)]; exact t.2.2.2.2 k hk
  · rw [o 8 _ (by omega), o 8 _ (by omega), o 8 _ (by omega), o 8 _ (by omega), o 8 _ (by omega), o 55 x (by omega), o 56 x (by omega), o 57 x (by omega), o 58 x (by omega), o 59 x (by omega)]; exact e.2.2.2 x hx
theorem m_unfitD {post : Int32 → gMem → Prop} (E : eqD D M) (d : dW D nt ns nr) (n1 : ¬ bySt D nt) (n2 : ¬ bySy D ns) (n3 : ¬ byRe D nr) (H : post 0 M) : wp_MO_unfit post M := by
  have b1 : ¬ bySt M nt := by
    rintro ⟨k, hk, w⟩
    rw [E 45 k (by omega), E 43 0 (by omega)] at w
    exact n1 ⟨k, hk, w⟩
  have b2 : ¬ bySy M ns := by
    rintro ⟨x, hx, w⟩
    unfold bySy1 at w
    rw [E 47 x (by omega), E 48 x (by omega), E 49 x (by omega), E 43 _ (by omega)] at w
    exact n2 ⟨x, hx, w⟩
  have b3 : ¬ byRe M nr := by
    rintro ⟨x, hx, w⟩
    unfold byRe1 at w
    rw [E 55 x (by omega), E 56 x (by omega), E 57 x (by omega), E 59 x (by omega), E 43 _ (by omega)] at w
    exact n3 ⟨x, hx, w⟩
  exact m_unfit (dW_eq E d) (fun w => absurd w b1) (fun _ w => absurd w b2) (fun _ _ w => absurd w b3) (fun _ _ _ => H)
theorem m_write {post : Int32 → gMem → Prop} (E : eqD D M) (R : rTi M) (d : dW D nt ns nr) (n1 : ¬ bySt D nt) (n2 : ¬ bySy D ns) (n3 : ¬ byRe D nr) (H1 : 8192 < szF D nt ns nr → ∀ M', fr sLm M M' → post (-4) M') (H2 : szF D nt ns nr ≤ 8192 → ∀ M', fr sWm M M' → M' 41 22 = nI (szF D nt ns nr) → mW (szF D nt ns nr) M' (fin D nt ns nr) → post (nI (szF D nt ns nr)) M') : wp_MO_write post M := by
  have hT := tb_in d
  have hE := nE_b (D := D) (nt := nt) (ns := ns) (nr := nr)
  have hns := d.2.2.2.1.1
  unfold wp_MO_write
  refine m_unfitD E d n1 n2 n3 (q_t rfl (m_lay E d R (fun M1 f1 g1 l1 e1 t1 p1 q1 => ?_)))
  have E1 := eqD_fr f1 sLm_D E
  have R1 : rTi M1 := rTi_fr f1 (by unfold sLm; omega) (by unfold sLm; omega) R
  rw [t1, show 1 + cnt (thW (W9 D nt ns nr)) 11 = nE D nt ns nr from rfl, show (40 : Int32) * nI (nE D nt ns nr) = nI (40 * nE D nt ns nr) from pk_mul 40 _, nI_add, show tbP D nt ns nr + 40 * nE D nt ns nr = szF D nt ns nr from rfl]
  have hsz : szF D nt ns nr < 2 ^ 31 := by unfold szF; omega
  refine q_le (b := 8192) (fun c => ?_) (fun c => H1 c M1 f1)
  refine m_order hns (by rw [E1 54 0 (by omega)]; exact d.2.2.2.1.2.2.1) (fun M2 f2 o2 M3 e3 => ?_)
  have elc : lc M1 = lc D := by funext x; unfold lc; rw [E1 50 x (by omega)]
  have etn : ∀ x, tn M1 ns x = tn D ns x := fun x => by unfold tn; rw [elc]
  rw [f2 41 40 (by unfold s71; omega), t1, show 1 + cnt (thW (W9 D nt ns nr)) 11 = nE D nt ns nr from rfl, show (40 : Int32) * nI (nE D nt ns nr) = nI (40 * nE D nt ns nr) from pk_mul 40 _, nI_add, show tbP D nt ns nr + 40 * nE D nt ns nr = szF D nt ns nr from rfl] at e3
  have f3 : fr sWm M M3 := (f1.mono fun c j q => by unfold sLm at q; unfold sWm; omega).trans ((f2.mono fun c j q => by unfold s71 at q; unfold sWm; omega).trans (by rw [e3]; exact fr_upd (Or.inr (Or.inr ⟨rfl, Or.inl rfl⟩))))
  have lo : ∀ c j, ¬ (c = 71) → ¬ (c = 41 ∧ j = 22) → M3 c j = M1 c j := fun c j a1 a2 => by rw [u_ne e3, f2 c j (by unfold s71; omega)]
  have L3 : mL D nt ns nr (szF D nt ns nr) M3 := ⟨eqD_fr f3 (by unfold sWm; omega) E, rTi_fr f3 (by unfold sWm; omega) (by unfold sWm; omega) R, fun p hp w => by rw [lo 65 p (by omega) (by omega)]; exact g1 p hp w, fun p hp => by rw [lo 66 p (by omega) (by omega)]; exact l1 p hp, fun p hp => by rw [lo 67 p (by omega) (by omega)]; exact e1 p hp, by rw [lo 41 40 (by omega) (by omega)]; exact t1, fun x hx => by rw [lo 70 x (by omega) (by omega)]; exact p1 x hx, fun x hx => by rw [u_ne e3, ← etn]; exact o2 x hx, fun p hp w => by rw [lo 72 p (by omega) (by omega)]; exact q1 p hp w, u_at e3⟩
  rw [elc]
  refine pk_loop (fun k i N => wl_MO_write_55 post k (nI (tbP D nt ns nr)) (nI (cnt (lc D) ns)) (nI i) N) (fun i N => fr sf2 M3 N ∧ ∀ k, k < i → N 62 k = 0) (szF D nt ns nr) 0 M3 (by omega) ⟨fr.refl, fun k hk => by omega⟩ ?_ ?_
  · rintro k N ⟨h1, h2⟩
    have LN := mL_2 h1 L3
    unfold wl_MO_write_55
    rw [LN.2.2.2.2.2.2.2.2.2]
    refine q_le (fun _ => m_header LN d n1 rfl ⟨c, h2⟩ (fun N1 x1 C1 => ?_)) (fun c => by omega)
    have Lb := mL_2 x1 LN
    refine m_text Lb d rfl C1 (fun N2 x2 C2 => ?_)
    have Lc := mL_2 x2 Lb
    refine m_starts2 Lc d rfl C2 (fun N3 x3 C3 => ?_)
    have Ld := mL_2 x3 Lc
    refine pk_loop (fun k s N' => wl_MO_write_193 post k (nI (tbP D nt ns nr)) (nI (cnt (lc D) ns)) (nI s) N') (fun s N' => fr sf2 N3 N' ∧ mW (szF D nt ns nr) N' (rA D nt ns nr (stF D nt ns nr (txF D nt ns nr (hdF D nt ns nr) 3) nt) s)) 3 0 N3 (by omega) ⟨fr.refl, C3⟩ ?_ ?_
    · rintro k2 N4 ⟨y1, y2⟩
      have Le := mL_2 y1 Ld
      unfold wl_MO_write_193
      refine q_le (a := 3) (fun _ => m_syms2 Le d rfl y2 (fun N5 x5 C5 => ?_)) (fun c => by omega)
      have Lf := mL_2 x5 Le
      refine m_labels (W := W9 D nt ns nr) Lf.2.1 Lf.2.2.2.2.1 (fun N6 x6 l6 s6 => ?_)
      have o6 : ∀ c j, ¬ sTl c j → N6 c j = N5 c j := x6
      have Lg : mL D nt ns nr (szF D nt ns nr) N6 := by
        obtain ⟨a1, a2, a3, a4, a5, a6, a7, a8, a9, aa⟩ := Lf
        exact ⟨fun c j q => by rw [o6 c j (by unfold sTl; omega)]; exact a1 c j q, rTi_fr x6 (by unfold sTl; omega) (by unfold sTl; omega) a2, fun p hp w => by rw [o6 65 p (by unfold sTl; omega)]; exact a3 p hp w, fun p hp => by rw [o6 66 p (by unfold sTl; omega)]; exact a4 p hp, fun p hp => by rw [o6 67 p (by unfold sTl; omega)]; exact a5 p hp, by rw [o6 41 40 (by unfold sTl; omega)]; exact a6, fun x hx => by rw [o6 70 x (by unfold sTl; omega)]; exact a7 x hx, fun x hx => by rw [o6 71 x (by unfold sTl; omega)]; exact a8 x hx, l6, by rw [o6 41 22 (by unfold sTl; omega)]; exact aa⟩
      have C6 : mW (szF D nt ns nr) N6 (syF D nt ns nr (rA D nt ns nr (stF D nt ns nr (txF D nt ns nr (hdF D nt ns nr) 3) nt) 3)) := ⟨C5.1, fun q hq => by rw [o6 62 q (by unfold sTl; omega)]; exact C5.2 q hq⟩
      refine m_c224 Lg s6.2 rfl d rfl C6 (fun N7 x7 C7 => ?_)
      have Lh := mL_2 x7 Lg
      refine m_symNames Lh.1 d.2.2.2.1 Lh.2.2.2.2.2.2.2.1 (fun N8 x8 p8 s8 => ?_)
      have o8 : ∀ c j, ¬ sNm c j → N8 c j = N7 c j := x8
      have Li : mL D nt ns nr (szF D nt ns nr) N8 := by
        obtain ⟨a1, a2, a3, a4, a5, a6, a7, a8, a9, aa⟩ := Lh
        exact ⟨fun c j q => by rw [o8 c j (by unfold sNm; omega)]; exact a1 c j q, rTi_fr x8 (by unfold sNm; omega) (by unfold sNm; omega) a2, fun p hp w => by rw [o8 65 p (by unfold sNm; omega)]; exact a3 p hp w, fun p hp => by rw [o8 66 p (by unfold sNm; omega)]; exact a4 p hp, fun p hp => by rw [o8 67 p (by unfold sNm; omega)]; exact a5 p hp, by rw [o8 41 40 (by unfold sNm; omega)]; exact a6, p8, fun x hx => by rw [o8 71 x (by unfold sNm; omega)]; exact a8 x hx, fun p hp w => by rw [o8 72 p (by unfold sNm; omega)]; exact a9 p hp w, by rw [o8 41 22 (by unfold sNm; omega)]; exact aa⟩
      have C8 : mW (szF D nt ns nr) N8 (s10F D nt ns nr (syF D nt ns nr (rA D nt ns nr (stF D nt ns nr (txF D nt ns nr (hdF D nt ns nr) 3) nt) 3))) := ⟨C7.1, fun q hq => by rw [o8 62 q (by unfold sNm; omega)]; exact C7.2 q hq⟩
      refine m_c268 Li s8.2 rfl d rfl C8 (fun N9 x9 C9 => ?_)
      have Lj := mL_2 x9 Li
      have b9 := bg_in d (show 9 < 11 by omega) (by omega) (th_8 (by omega))
      have b10 := bg_in d (show 10 < 11 by omega) (by omega) (th_8 (by omega))
      have hdis : bgP D nt ns nr 9 + (SN D ns ns).2 ≤ bgP D nt ns nr 10 := by
        have hu := (up_b (a := cu D nt ns nr 10) (pw_b (alP_e d (p := 10)).1).1).1
        have e10 : bgP D nt ns nr 10 = up (cu D nt ns nr 10) (alP D 10) := by unfold bgP; rw [if_neg (by omega)]
        have h9 := b9.2.1
        rw [lnP_9] at h9
        have : cu D nt ns nr (9 + 1) = cu D nt ns nr 10 := rfl
        omega
      have ecomm : s9F D nt ns nr (s10F D nt ns nr (syF D nt ns nr (rA D nt ns nr (stF D nt ns nr (txF D nt ns nr (hdF D nt ns nr) 3) nt) 3))) = s10F D nt ns nr (s9F D nt ns nr (syF D nt ns nr (rA D nt ns nr (stF D nt ns nr (txF D nt ns nr (hdF D nt ns nr) 3) nt) 3))) := by
        unfold s9F s10F
        exact (cp_comm hdis).symm
      rw [ecomm] at C9
      refine m_table Lj d rfl C9 (fun Na xa Ca => ?_)
      have fz : fr sWm M3 Na := by
        have up62 : ∀ {A B : gMem}, fr sf2 A B → fr sWm A B := fun w => w.mono fun c j q => Or.inl q
        have x6' : fr sWm N5 N6 := x6.mono fun c j q => by unfold sTl at q; unfold sWm; omega
        have x8' : fr sWm N7 N8 := x8.mono fun c j q => by unfold sNm at q; unfold sWm; omega
        exact (up62 h1).trans ((up62 x1).trans ((up62 x2).trans ((up62 x3).trans ((up62 y1).trans ((up62 x5).trans (x6'.trans ((up62 x7).trans (x8'.trans ((up62 x9).trans (up62 xa))))))))))
      have Lk := mL_2 xa Lj
      exact H2 c Na (f3.trans fz) Lk.2.2.2.2.2.2.2.2.2 Ca
    · rintro k2 s N4 hs ⟨y1, y2⟩ K2
      have Le := mL_2 y1 Ld
      unfold wl_MO_write_193
      rw [nI_1]
      exact q_le (a := 3) (fun c => by omega) (fun _ => m_rel1 Le d rfl hs y2 (fun N5 x5 C5 => q_x (K2 N5 ⟨y1.trans x5, C5⟩)))
  · rintro k i N hi ⟨h1, h2⟩ K
    have LN := mL_2 h1 L3
    unfold wl_MO_write_55
    rw [LN.2.2.2.2.2.2.2.2.2, nI_1, nI_clamp (by omega)]
    refine q_le (fun c => by omega) (fun _ => ⟨vp_in_nI (by omega) (by omega), fun N2 e2 => q_x (K N2 ⟨h1.trans (by rw [e2]; exact fr_upd rfl), fun q hq => ?_⟩)⟩)
    by_cases cq : q = i
    · subst cq; exact u_at e2
    · rw [u_ne e2]; exact h2 q (by omega)
def sWT (c j : Nat) : Prop := sWr c j ∨ sWm c j
theorem sWT_O (cb o : Nat) (hcb : 1 ≤ cb) (hc2 : cb ≤ 9) : ∀ c j, fpO cb o c j → ¬ sWT c j := by
  intro c j q
  unfold fpO at q
  unfold sWT sWr sWm
  rcases q with q | q | q | q | q
  · unfold fpZ at q; omega
  · unfold fpD at q; omega
  · unfold fpT at q; omega
  · unfold fpY at q; omega
  · unfold fpE at q; omega
theorem inv_wr {M M' : gMem} (hf : fr sWT M M') (h : pInv M) (h3 : rFi M') (h6 : rFb M') : pInv M' := by
  have hn := inv_n1 h
  obtain ⟨i1, i2, i3, i4, i5, i6, i7, i8⟩ := h
  exact ⟨rOb_fr hf (sWT_O 1 0 (by omega) (by omega)) i1, rOb_fr hf (sWT_O 9 1 (by omega) (by omega)) i2, h3, rDr_fr hf (by unfold sWT sWr sWm; omega) (by unfold sWT sWr sWm; omega) (by unfold sWT sWr sWm; omega) (by unfold sWT sWr sWm; omega) i4, rPl_fr hf (by unfold sWT sWr sWm; omega) (by unfold sWT sWr sWm; omega) i5, h6, rTi_fr hf (by unfold sWT sWr sWm; omega) (by unfold sWT sWr sWm; omega) i7, rIn_fr hf (by unfold sWT sWr sWm; omega) (by unfold sWT sWr sWm; omega) (by unfold sWT sWr sWm; omega) hn i8⟩
theorem c_write {M : gMem} (h : pInv M) : wp_OF_write (fun r M1 => wp_MO_write (fun r' M2 => r = r' ∧ pInv M2) M1) M := by
  obtain ⟨nt, ns, nr, d⟩ := dW_of h.1
  have hb := h.2.2.2.2.2.1
  have R := h.2.2.2.2.2.2.1
  have mU : ∀ {post : Int32 → gMem → Prop}, (bySt M nt → post (-1) M) → (¬ bySt M nt → bySy M ns → post (-2) M) → (¬ bySt M nt → ¬ bySy M ns → byRe M nr → post (-3) M) → ((bySt M nt ∨ bySy M ns ∨ byRe M nr)) → wp_MO_write post M := by
    intro post p1 p2 p3 w
    unfold wp_MO_write
    refine m_unfit d (fun c => q_f (by decide) (p1 c)) (fun c1 c2 => q_f (by decide) (p2 c1 c2)) (fun c1 c2 c3 => q_f (by decide) (p3 c1 c2 c3)) (fun c1 c2 c3 => ?_)
    rcases w with w | w | w
    · exact absurd w c1
    · exact absurd w c2
    · exact absurd w c3
  refine w_write d hb (fun c => mU (fun _ => ⟨rfl, h⟩) (fun a _ => absurd c a) (fun a _ _ => absurd c a) (Or.inl c)) (fun c1 c => mU (fun a => absurd a c1) (fun _ _ => ⟨rfl, h⟩) (fun _ a _ => absurd c a) (Or.inr (Or.inl c))) (fun c1 c2 c => mU (fun a => absurd a c1) (fun _ a => absurd a c2) (fun _ _ _ => ⟨rfl, h⟩) (Or.inr (Or.inr c))) (fun n1 n2 n3 big M1 f1 b1 => ?_) (fun n1 n2 n3 sm M1 f1 C1 => ?_)
  · have E1 : eqD M M1 := eqD_fr f1 (by unfold sWs; omega) (fun _ _ _ => rfl)
    have R1 : rTi M1 := rTi_fr f1 (by unfold sWs; omega) (by unfold sWs; omega) R
    refine m_write E1 R1 d n1 n2 n3 (fun _ M2 f2 => ⟨rfl, ?_⟩) (fun w => by omega)
    have fT : fr sWT M M2 := (f1.mono fun c j q => Or.inl (Or.inl q)).trans (f2.mono fun c j q => Or.inr (by unfold sLm at q; unfold sWm; omega))
    refine inv_wr fT h ?_ ?_
    · have fs : fr (fun c j => (19 ≤ c ∧ c ≤ 31) ∨ (65 ≤ c ∧ c ≤ 72) ∨ (c = 41 ∧ (j = 30 ∨ j = 32 ∨ j = 40))) M M2 := (f1.mono fun c j q => Or.inl q).trans (f2.mono fun c j q => Or.inr q)
      exact rFi_fr fs (by omega) (by omega) (by omega) (by omega) h.2.2.1
    · exact rFb_fr f2 (fb_n (by unfold sLm; omega)) b1
  · have E1 : eqD M M1 := eqD_fr f1 (by unfold sWr; omega) (fun _ _ _ => rfl)
    have R1 : rTi M1 := rTi_fr f1 (by unfold sWr; omega) (by unfold sWr; omega) R
    refine m_write E1 R1 d n1 n2 n3 (fun w => by omega) (fun _ M2 f2 e2 C2 => ⟨rfl, ?_⟩)
    have fT : fr sWT M M2 := (f1.mono fun c j q => Or.inl q).trans (f2.mono fun c j q => Or.inr q)
    refine inv_wr fT h ⟨szF M nt ns nr, sm, by rw [f2 17 1 (by unfold sWm; omega)]; exact C1.2.1, e2, fun k hk => ?_⟩ (rFb_fr f2 (fb_n (by unfold sWm; omega)) C1.2.2.1)
    rw [f2 18 k (by unfold sWm; omega), C1.2.2.2 k hk, C2.2 k hk]
end
