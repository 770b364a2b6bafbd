/-! the file's head -/
theorem sq_fs {g : Nat → Nat × Nat} {d k : Nat} {y : Nat × Nat} : sq (fs g (d + 1) k) y = if (g k).1 = 0 then sq (fs g d (k + 1)) y else g k := by
  show sq (if (g k).1 = 0 then fs g d (k + 1) else g k) y = _
  by_cases c : (g k).1 = 0
  · rw [if_pos c, if_pos c]
  · rw [if_neg c, if_neg c, sq, if_neg c]
theorem sq_f0 {g : Nat → Nat × Nat} {k : Nat} {y : Nat × Nat} : sq (fs g 0 k) y = y := rfl
def gMg (k : Nat) : Nat := if k = 0 then 127 else if k = 1 then 69 else if k = 2 then 76 else 70
def xM4 (b : Nat → Fin 256) : Nat × Nat := if (v2 b 16).1 = 1 then (if (v2 b 18).1 = 243 then (0, 0) else (8, 18)) else (7, 16)
def yM1 (b : Nat → Fin 256) (k : Nat) : Nat × Nat := if (b k).1 = gMg k then (0, 0) else (2, k)
def yM2 (b : Nat → Fin 256) (k : Nat) : Nat × Nat := if (b k).1 = 1 then (0, 0) else (k - 1, k)
def yM3 (b : Nat → Fin 256) (k : Nat) : Nat × Nat := if (b k).1 = 0 then (0, 0) else (6, k)
def xMk (n : Nat) (b : Nat → Fin 256) : Nat × Nat := if n < 52 then (1, n) else sq (fs (yM1 b) 4 0) (sq (fs (yM2 b) 3 4) (sq (fs (yM3 b) 9 7) (xM4 b)))
theorem k_mark4 {n : Nat} {b : Nat → Fin 256} {M : gMem} {post : Int32 → gMem → Prop} (V : rV n b M) (hn : 52 ≤ n) (H : post (nI (xM4 b).1) (tl M (xM4 b))) : wp_FB_u2 (fun r1 M2 => (r1 = (1 : Int32) → wp_FB_u2 (fun r3 M4 => (r3 = (243 : Int32) → post (0 : Int32) M4) ∧ (¬ r3 = (243 : Int32) → wp_FI_tell (fun r5 M6 => post r5 M6) (8 : Int32) (18 : Int32) M4)) (18 : Int32) M2) ∧ (¬ r1 = (1 : Int32) → wp_FI_tell (fun r7 M8 => post r7 M8) (7 : Int32) (16 : Int32) M2)) (16 : Int32) M := by
  unfold xM4 at H
  refine k_u2 (p := 16) V (q_eq (b := 1) (fun c => k_u2 (p := 18) V (q_eq (b := 243) (fun d => ?_) (fun d => ?_))) (fun c => ?_))
  · rw [if_pos c, if_pos d] at H; exact H
  · rw [if_pos c, if_neg d] at H; exact k_tell (f := 8) (p := 18) H
  · rw [if_neg c] at H; exact k_tell (f := 7) (p := 16) H
theorem k_mark3 {n : Nat} {b : Nat → Fin 256} {M : gMem} {post : Int32 → gMem → Prop} (V : rV n b M) (hn : 52 ≤ n) : ∀ d k, k + d = 16 → post (nI (sq (fs (yM3 b) d k) (xM4 b)).1) (tl M (sq (fs (yM3 b) d k) (xM4 b))) → wl_DI_markFault_111 post (d + 1) (nI k) M := by
  intro d
  induction d with
  | zero =>
    intro k hk H
    unfold wl_DI_markFault_111
    exact q_lt (a := 15) (fun c => k_mark4 V hn H) (fun c => by omega)
  | succ d ih =>
    intro k hk H
    unfold wl_DI_markFault_111
    rw [sq_fs] at H
    refine q_lt (a := 15) (fun c => by omega) (fun c => k_u1 V (q_eq (b := 0) (fun e => ?_) (fun e => ?_)))
    · rw [yM3, if_pos e, if_pos rfl] at H
      exact q_x (by rw [nI_1]; exact ih (k + 1) (by omega) H)
    · rw [yM3, if_neg e, if_neg (by simp)] at H
      exact k_tell (f := 6) H
theorem k_mark2 {n : Nat} {b : Nat → Fin 256} {M : gMem} {post : Int32 → gMem → Prop} (V : rV n b M) (hn : 52 ≤ n) : ∀ d k, k + d = 7 → 4 ≤ k → post (nI (sq (fs (yM2 b) d k) (sq (fs (yM3 b) 9 7) (xM4 b))).1) (tl M (sq (fs (yM2 b) d k) (sq (fs (yM3 b) 9 7) (xM4 b)))) → wl_DI_markFault_72 post (d + 1) (nI k) M := by
  intro d
  induction d with
  | zero =>
    intro k hk h4 H
    unfold wl_DI_markFault_72
    exact q_lt (a := 6) (fun c => ⟨10, k_mark3 V hn 9 7 (by omega) H⟩) (fun c => by omega)
  | succ d ih =>
    intro k hk h4 H
    unfold wl_DI_markFault_72
    rw [sq_fs] at H
    refine q_lt (a := 6) (fun c => by omega) (fun c => k_u1 V (q_eq (b := 1) (fun e => ?_) (fun e => ?_)))
    · rw [yM2, if_pos e, if_pos rfl] at H
      exact q_x (by rw [nI_1]; exact ih (k + 1) (by omega) (by omega) H)
    · rw [yM2, if_neg e, if_neg (show ¬ (k - 1, k).1 = 0 by show ¬ k - 1 = 0; omega)] at H
      rw [show nI k - (1 : Int32) = nI (k - 1) from pk_sub (b := 1) (by omega)]
      exact k_tell (f := k - 1) H
theorem gTb2_e : ∀ k, k < 4 → gTb2.getD k 0 = nI (gMg k) := by decide
theorem gMg_lt (k : Nat) : gMg k < 256 := by unfold gMg; split <;> (try split) <;> (try split) <;> omega
theorem k_mark1 {n : Nat} {b : Nat → Fin 256} {M : gMem} {post : Int32 → gMem → Prop} (V : rV n b M) (hn : 52 ≤ n) : ∀ d k, k + d = 4 → post (nI (sq (fs (yM1 b) d k) (sq (fs (yM2 b) 3 4) (sq (fs (yM3 b) 9 7) (xM4 b)))).1) (tl M (sq (fs (yM1 b) d k) (sq (fs (yM2 b) 3 4) (sq (fs (yM3 b) 9 7) (xM4 b))))) → wl_DI_markFault_30 post (d + 1) (nI k) M := by
  intro d
  induction d with
  | zero =>
    intro k hk H
    unfold wl_DI_markFault_30
    exact q_le (a := 4) (fun c => ⟨4, k_mark2 V hn 3 4 (by omega) (by omega) H⟩) (fun c => by omega)
  | succ d ih =>
    intro k hk H
    unfold wl_DI_markFault_30
    rw [sq_fs] at H
    have hg := gMg_lt k
    rw [nI_clamp (by omega), gTb2_e k (by omega)]
    refine q_le (a := 4) (fun c => by omega) (fun c => k_u1 V ⟨vp_in_nI (by omega) (by omega), q_eq (fun e => ?_) (fun e => ?_)⟩)
    · rw [yM1, if_pos e, if_pos rfl] at H
      exact q_x (by rw [nI_1]; exact ih (k + 1) (by omega) H)
    · rw [yM1, if_neg e, if_neg (by simp)] at H
      exact k_tell (f := 2) H
theorem k_mark {n : Nat} {b : Nat → Fin 256} {M : gMem} {post : Int32 → gMem → Prop} (V : rV n b M) (H : post (nI (xMk n b).1) (tl M (xMk n b))) : wp_DI_markFault post M := by
  unfold wp_DI_markFault
  have hn := V.1
  rw [V.2.1]
  refine q_le (a := 52) (fun c => ⟨5, ?_⟩) (fun c => ?_)
  · rw [xMk, if_neg (by omega)] at H
    exact k_mark1 V c 4 0 (by omega) H
  · rw [xMk, if_pos c] at H
    exact k_tell (f := 1) H
/-- the numbers of the head -/
def xH5 (b : Nat → Fin 256) : Nat := if (v2 b 48).1 < 1 ∨ 16 < (v2 b 48).1 then 48 else if (v2 b 50).1 < 1 ∨ (v2 b 48).1 ≤ (v2 b 50).1 then 50 else 0
def xH4 (b : Nat → Fin 256) : Nat := if (v4 b 20).1 = 1 then (if (v4 b 24).1 = 0 then (if (v4 b 28).1 = 0 then (if (v4 b 32).1 < 52 ∨ (v4 b 32).1 % 4 ≠ 0 then 32 else if (v4 b 36).1 ≤ 1 then (if (v2 b 40).1 = 52 then (if (v2 b 42).1 = 0 then (if (v2 b 44).1 = 0 then (if (v2 b 46).1 = 40 then xH5 b else 46) else 44) else 42) else 40) else 36) else 28) else 24) else 20
def xH3 (n : Nat) (b : Nat → Fin 256) : Nat × Nat := if xH4 b = 0 then (if (v4 b 32).1 + 40 * (v2 b 48).1 ≤ n then (0, 0) else (10, 32)) else (9, xH4 b)
def wn (k : Nat) : Int32 := if k = 0 then -1 else nI k
theorem k_count {n : Nat} {b : Nat → Fin 256} {M : gMem} {post : Int32 → gMem → Prop} (V : rV n b M) (hn : 52 ≤ n) (H : post (wn (xH5 b)) M) : wp_DI_wrongEntryCount post M := by
  unfold wp_DI_wrongEntryCount
  unfold xH5 at H
  refine k_u2 (p := 48) V (q_lt (b := 1) (fun c => ?_) (fun c => q_le (b := 16) (fun d => k_u2 (p := 50) V (q_lt (b := 1) (fun e => ?_) (fun e => q_lt (fun f => ?_) (fun f => ?_)))) (fun d => ?_)))
  · rw [if_pos (by omega)] at H; exact H
  · rw [if_neg (by omega), if_pos (by omega)] at H; exact H
  · rw [if_neg (by omega), if_neg (by omega)] at H; exact H
  · rw [if_neg (by omega), if_pos (by omega)] at H; exact H
  · rw [if_pos (by omega)] at H; exact H
theorem k_wrong {n : Nat} {b : Nat → Fin 256} {M : gMem} {post : Int32 → gMem → Prop} (V : rV n b M) (hn : 52 ≤ n) (H : post (wn (xH4 b)) M) : wp_DI_wrongHeaderNumber post M := by
  unfold wp_DI_wrongHeaderNumber
  unfold xH4 at H
  have e4 : ∀ a : Fin 4294967296, lN a.1 - lN a.1 / (4 : Int64) * (4 : Int64) = lN (a.1 % 4) := fun a => pk_lRem (b := 4) (by omega) (by omega) (by omega)
  refine k_u4 (p := 20) V (ql_eq (b := 1) (fun c1 => k_u4 (p := 24) V (ql_eq (b := 0) (fun c2 => k_u4 (p := 28) V (ql_eq (b := 0) (fun c3 => k_u4 (p := 32) V (ql_lt (b := 52) (fun c4 => ?_) (fun c4 => k_u4 (p := 32) V ?_))) (fun c3 => ?_))) (fun c2 => ?_))) (fun c1 => ?_))
  · rw [if_pos c1, if_pos c2, if_pos c3, if_pos (Or.inl c4)] at H; exact H
  · try dsimp only
    rw [e4]
    refine ql_eq (b := 0) (fun c5 => k_u4 (p := 36) V (ql_le (b := 1) (fun c6 => k_u2 (p := 40) V (q_eq (b := 52) (fun c7 => k_u2 (p := 42) V (q_eq (b := 0) (fun c8 => k_u2 (p := 44) V (q_eq (b := 0) (fun c9 => k_u2 (p := 46) V (q_eq (b := 40) (fun c10 => k_count V hn ?_) (fun c10 => ?_))) (fun c9 => ?_))) (fun c8 => ?_))) (fun c7 => ?_))) (fun c6 => ?_))) (fun c5 => ?_)
    · rw [if_pos c1, if_pos c2, if_pos c3, if_neg (by omega), if_pos c6, if_pos c7, if_pos c8, if_pos c9, if_pos c10] at H; exact H
    · rw [if_pos c1, if_pos c2, if_pos c3, if_neg (by omega), if_pos c6, if_pos c7, if_pos c8, if_pos c9, if_neg c10] at H; exact H
    · rw [if_pos c1, if_pos c2, if_pos c3, if_neg (by omega), if_pos c6, if_pos c7, if_pos c8, if_neg c9] at H; exact H
    · rw [if_pos c1, if_pos c2, if_pos c3, if_neg (by omega), if_pos c6, if_pos c7, if_neg c8] at H; exact H
    · rw [if_pos c1, if_pos c2, if_pos c3, if_neg (by omega), if_pos c6, if_neg c7] at H; exact H
    · rw [if_pos c1, if_pos c2, if_pos c3, if_neg (by omega), if_neg (by omega)] at H; exact H
    · rw [if_pos c1, if_pos c2, if_pos c3, if_pos (by omega)] at H; exact H
  · rw [if_pos c1, if_pos c2, if_neg c3] at H; exact H
  · rw [if_pos c1, if_neg c2] at H; exact H
  · rw [if_neg c1] at H; exact H
theorem rV_fr {n : Nat} {b : Nat → Fin 256} {S : Nat → Nat → Prop} {M M' : gMem} (hf : fr S M M') (h1 : ¬ S 17 1) (h2 : ¬ S 41 22) (h3 : ∀ j, ¬ S 18 j) (h4 : ∀ j, ¬ S 62 j) (V : rV n b M) : rV n b M' := by
  obtain ⟨a0, a1, a2, a3, a4, a5⟩ := V
  exact ⟨a0, by rw [hf _ _ h1]; exact a1, by rw [hf _ _ h2]; exact a2, a3, fun k hk => by rw [hf _ _ (h3 k)]; exact a4 k hk, fun k hk => by rw [hf _ _ (h4 k)]; exact a5 k hk⟩
def sC (c _j : Nat) : Prop := 32 ≤ c ∧ c ≤ 39
def rC (M M' : gMem) (x : Nat × Nat) : Prop := fr sC M M' ∧ (x.1 = 0 → M' 32 0 = M 32 0) ∧ (x.1 ≠ 0 → M' 32 0 = nI x.2)
theorem rV_C {n : Nat} {b : Nat → Fin 256} {M M' : gMem} (hf : fr sC M M') (V : rV n b M) : rV n b M' := rV_fr hf (by unfold sC; omega) (by unfold sC; omega) (by unfold sC; omega) (by unfold sC; omega) V
def dV (b : Nat → Fin 256) (M : gMem) : Prop := M 33 7 = nI (v4 b 32).1 ∧ M 33 8 = nI (v2 b 48).1 ∧ M 33 9 = nI (v2 b 50).1
theorem xH4_lt {b : Nat → Fin 256} : xH4 b < 52 := by
  unfold xH4 xH5
  repeat' split
  all_goals omega
theorem wn_e {k : Nat} {A B : Prop} (f : k = 0 → A) (g : k ≠ 0 → B) (hk : k < 2 ^ 31 := by omega) : (wn k = (-1 : Int32) → A) ∧ (¬ wn k = (-1 : Int32) → B) := by
  unfold wn
  by_cases c : k = 0
  · rw [if_pos c]; exact ⟨fun _ => f c, fun d => absurd rfl d⟩
  · rw [if_neg c]
    refine ⟨fun d => ?_, fun _ => g c⟩
    exfalso
    rw [ti_eq, ti_nI hk, show ((-1 : Int32)).toInt = -1 from rfl] at d
    omega
theorem tl_rC {M : gMem} {x : Nat × Nat} : rC M (tl M x) x := by
  unfold tl
  by_cases c : x.1 = 0
  · rw [if_pos c]; exact ⟨fr.refl, fun _ => rfl, fun d => absurd c d⟩
  · rw [if_neg c]; exact ⟨fr_upd (by unfold sC; omega), fun d => absurd d c, fun _ => rfl⟩
theorem k_header {n : Nat} {b : Nat → Fin 256} {M : gMem} {post : Int32 → gMem → Prop} (V : rV n b M) (hn : 52 ≤ n) (H : ∀ M', rC M M' (xH3 n b) → ((xH3 n b).1 = 0 → dV b M') → post (nI (xH3 n b).1) M') : wp_DI_headerFault post M := by
  unfold wp_DI_headerFault
  unfold xH3 at H
  have hl := xH4_lt (b := b)
  refine k_wrong V hn (wn_e (fun c => ?_) (fun c => ?_))
  · rw [if_pos c] at H
    refine k_u2 (p := 48) V (fun M1 e1 => ?_)
    have f1 : fr sC M M1 := e1 ▸ fr_upd (by unfold sC; omega)
    refine k_u2 (p := 50) (rV_C f1 V) (fun M2 e2 => ?_)
    have f2 : fr sC M M2 := f1.trans (e2 ▸ fr_upd (by unfold sC; omega))
    have V2 := rV_C f2 V
    refine k_u4 (p := 32) V2 ?_
    have g8 : M2 33 8 = nI (v2 b 48).1 := by rw [e2, e1]; rfl
    have g9 : M2 33 9 = nI (v2 b 50).1 := by rw [e2]; rfl
    try dsimp only
    rw [g8, V2.2.1, show (40 : Int32) = nI 40 from rfl, pk_mul, nI_l (by omega), nI_l (by have := V.1; omega), lN_add]
    have := V.1
    refine ql_le (fun d => ?_) (fun d => ?_)
    · rw [if_pos d] at H
      refine k_u4 (p := 32) V2 (fun M3 e3 => ?_)
      rw [lN_i] at e3
      refine H M3 ⟨f2.trans (e3 ▸ fr_upd (by unfold sC; omega)), fun _ => by rw [e3, e2, e1]; rfl, fun q => absurd rfl q⟩ (fun _ => ⟨by rw [e3]; rfl, by rw [e3]; exact g8, by rw [e3]; exact g9⟩)
    · rw [if_neg (by omega)] at H
      refine k_tell (f := 10) (p := 32) (H _ ?_ (fun q => absurd q (by decide)))
      obtain ⟨t1, t2, t3⟩ := tl_rC (M := M2) (x := (10, 32))
      exact ⟨f2.trans t1, fun q => absurd q (by decide), t3⟩
  · rw [if_neg c] at H
    rw [wn, if_neg c]
    exact k_tell (f := 9) (H _ tl_rC (fun q => absurd q (by simp)))
/-! the same, of the reference -/
def sM (c j : Nat) : Prop := (c = 41 ∧ (j = 23 ∨ j = 39 ∨ j = 40)) ∨ c = 73 ∨ c = 74
def rM (M M' : gMem) (x : Nat × Nat) : Prop := fr sM M M' ∧ (x.1 ≠ 0 → M' 41 23 = nI x.2)
theorem rV_M {n : Nat} {b : Nat → Fin 256} {M M' : gMem} (hf : fr sM M M') (V : rV n b M) : rV n b M' := rV_fr hf (by unfold sM; omega) (by unfold sM; omega) (by unfold sM; omega) (by unfold sM; omega) V
theorem tm_rM {M : gMem} {x : Nat × Nat} : rM M (tm M x) x := by
  unfold tm
  by_cases c : x.1 = 0
  · rw [if_pos c]; exact ⟨fr.refl, fun d => absurd c d⟩
  · rw [if_neg c]; exact ⟨fr_upd (by unfold sM; omega), fun _ => rfl⟩
def eV (b : Nat → Fin 256) (M : gMem) : Prop := M 41 39 = nI (v4 b 32).1 ∧ M 41 40 = nI (v2 b 48).1
def xHd (n : Nat) (b : Nat → Fin 256) : Nat × Nat := sq (xMk n b) (xH3 n b)
theorem sq_sq {x y z : Nat × Nat} : sq (sq x y) z = sq x (sq y z) := by
  unfold sq
  by_cases c : x.1 = 0
  · rw [if_pos c, if_pos c]
  · rw [if_neg c, if_neg c, if_neg c]
theorem m_num {n : Nat} {b : Nat → Fin 256} {M : gMem} {post : Int32 → gMem → Prop} (V : rV n b M) (hn : 52 ≤ n) (H : ∀ M', rM M M' (sq (xM4 b) (xH3 n b)) → ((sq (xM4 b) (xH3 n b)).1 = 0 → eV b M') → post (nI (sq (xM4 b) (xH3 n b)).1) M') (k d : Nat) (hk : 16 ≤ k) (hk2 : k < 17) : wl_MO_head_127 post (d + 1) (nI k) M := by
  unfold wl_MO_head_127
  have h8 := V.1
  have e4 : ∀ a : Fin 4294967296, lN a.1 - lN a.1 / (4 : Int64) * (4 : Int64) = lN (a.1 % 4) := fun a => pk_lRem (b := 4) (by omega) (by omega) (by omega)
  have bad : ∀ f p, sq (xM4 b) (xH3 n b) = (f, p) → f ≠ 0 → ∀ M1, fr sM M M1 → wp_MO_fault (fun r M2 => post r M2) (nI f) (nI p) M1 := by
    intro f p e hf M1 f1
    rw [e] at H
    refine m_fault (H _ ⟨f1.trans tm_rM.1, fun _ => tm_rM.2 hf⟩ (fun q => absurd q hf)) hf
  refine q_le (a := 16) (fun _ => m_read2 (p := 16) V (q_eq (b := 1) (fun c1 => m_read2 (p := 18) V (q_eq (b := 243) (fun c2 => ?_) (fun c2 => ?_))) (fun c1 => ?_))) (fun c => by omega)
  · have s0 : sq (xM4 b) (xH3 n b) = xH3 n b := by rw [xM4, if_pos c1, if_pos c2]; rfl
    have b9 : ∀ p, p ≠ 0 → xH4 b = p → ∀ M1, fr sM M M1 → wp_MO_fault (fun r M2 => post r M2) (nI 9) (nI p) M1 := fun p hp e M1 f1 => bad 9 p (by rw [s0, xH3, if_neg (by omega), e]) (by omega) M1 f1
    refine m_read4 (p := 20) V (ql_eq (b := 1) (fun c3 => m_read4 (p := 24) V (ql_eq (b := 0) (fun c4 => m_read4 (p := 28) V (ql_eq (b := 0) (fun c5 => m_read4 (p := 32) V ?_) (fun c5 => ?_))) (fun c4 => ?_))) (fun c3 => ?_))
    · try dsimp only
      rw [e4]
      refine ql_ne (b := 0) (fun c6 => ?_) (fun c6 => ql_le (a := 52) (fun c7 => ?_) (fun c7 => ?_))
      · exact b9 32 (by omega) (by rw [xH4, if_pos c3, if_pos c4, if_pos c5, if_pos (by omega)]) M fr.refl
      · have c67 : ¬ ((v4 b 32).1 < 52 ∨ (v4 b 32).1 % 4 ≠ 0) := by omega
        refine m_read4 (p := 36) V (ql_le (b := 1) (fun c8 => m_read2 (p := 40) V (q_eq (b := 52) (fun c9 => m_read2 (p := 42) V (q_eq (b := 0) (fun c10 => m_read2 (p := 44) V (q_eq (b := 0) (fun c11 => m_read2 (p := 46) V (q_eq (b := 40) (fun c12 => m_read2 (p := 48) V (fun M1 e1 => ?_)) (fun c12 => ?_))) (fun c11 => ?_))) (fun c10 => ?_))) (fun c9 => ?_))) (fun c8 => ?_))
        · have h4 : xH4 b = xH5 b := by rw [xH4, if_pos c3, if_pos c4, if_pos c5, if_neg c67, if_pos c8, if_pos c9, if_pos c10, if_pos c11, if_pos c12]
          have f1 : fr sM M M1 := e1 ▸ fr_upd (by unfold sM; omega)
          have g0 : M1 41 40 = nI (v2 b 48).1 := by rw [e1]; rfl
          have V1 := rV_M f1 V
          rw [g0]
          refine q_lt (b := 1) (fun d1 => ?_) (fun d1 => q_le (b := 16) (fun d2 => m_read2 (p := 50) V1 ?_) (fun d2 => ?_))
          · exact b9 48 (by omega) (by rw [h4, xH5, if_pos (by omega)]) M1 f1
          · try dsimp only
            rw [g0, V1.2.2.1, nI_l (by omega), nI_l (by omega), show (40 : Int64) = lN 40 from rfl, lN_mul, lN_add]
            refine q_lt (b := 1) (fun d3 => ?_) (fun d3 => q_lt (fun d4 => ?_) (fun d4 => ?_))
            · exact b9 50 (by omega) (by rw [h4, xH5, if_neg (by omega), if_pos (by omega)]) M1 f1
            · have h5 : xH4 b = 0 := by rw [h4, xH5, if_neg (by omega), if_neg (by omega)]
              refine ql_le (fun d5 => ?_) (fun d5 => ?_)
              · intro M2 e2
                rw [lN_i] at e2
                rw [s0, xH3, if_pos h5, if_pos d5] at H
                exact H M2 ⟨f1.trans (e2 ▸ fr_upd (by unfold sM; omega)), fun q => absurd rfl q⟩ (fun _ => ⟨by rw [e2]; rfl, by rw [e2]; exact g0⟩)
              · exact bad 10 32 (by rw [s0, xH3, if_pos h5, if_neg (by omega)]) (by omega) M1 f1
            · exact b9 50 (by omega) (by rw [h4, xH5, if_neg (by omega), if_pos (by omega)]) M1 f1
          · exact b9 48 (by omega) (by rw [h4, xH5, if_pos (by omega)]) M1 f1
        · exact b9 46 (by omega) (by rw [xH4, if_pos c3, if_pos c4, if_pos c5, if_neg c67, if_pos c8, if_pos c9, if_pos c10, if_pos c11, if_neg c12]) M fr.refl
        · exact b9 44 (by omega) (by rw [xH4, if_pos c3, if_pos c4, if_pos c5, if_neg c67, if_pos c8, if_pos c9, if_pos c10, if_neg c11]) M fr.refl
        · exact b9 42 (by omega) (by rw [xH4, if_pos c3, if_pos c4, if_pos c5, if_neg c67, if_pos c8, if_pos c9, if_neg c10]) M fr.refl
        · exact b9 40 (by omega) (by rw [xH4, if_pos c3, if_pos c4, if_pos c5, if_neg c67, if_pos c8, if_neg c9]) M fr.refl
        · exact b9 36 (by omega) (by rw [xH4, if_pos c3, if_pos c4, if_pos c5, if_neg c67, if_neg (by omega)]) M fr.refl
      · exact b9 32 (by omega) (by rw [xH4, if_pos c3, if_pos c4, if_pos c5, if_pos (by omega)]) M fr.refl
    · exact b9 28 (by omega) (by rw [xH4, if_pos c3, if_pos c4, if_neg c5]) M fr.refl
    · exact b9 24 (by omega) (by rw [xH4, if_pos c3, if_neg c4]) M fr.refl
    · exact b9 20 (by omega) (by rw [xH4, if_neg c3]) M fr.refl
  · exact bad 8 18 (by rw [xM4, if_pos c1, if_neg c2]; rfl) (by omega) M fr.refl
  · exact bad 7 16 (by rw [xM4, if_neg c1]; rfl) (by omega) M fr.refl
theorem m_head3 {n : Nat} {b : Nat → Fin 256} {M : gMem} {post : Int32 → gMem → Prop} (V : rV n b M) (hn : 52 ≤ n) : ∀ d k, k + d = 16 → (∀ M', rM M M' (sq (fs (yM3 b) d k) (sq (xM4 b) (xH3 n b))) → ((sq (fs (yM3 b) d k) (sq (xM4 b) (xH3 n b))).1 = 0 → eV b M') → post (nI (sq (fs (yM3 b) d k) (sq (xM4 b) (xH3 n b))).1) M') → wl_MO_head_127 post (d + 1) (nI k) M := by
  intro d
  induction d with
  | zero => exact fun k hk H => m_num V hn H k 0 (by omega) (by omega)
  | succ d ih =>
    intro k hk H
    unfold wl_MO_head_127
    rw [sq_fs] at H
    rw [m_f V (by omega)]
    refine q_le (a := 16) (fun c => by omega) (fun c => ⟨m_in V (by omega), q_eq (b := 0) (fun e => ?_) (fun e => ?_)⟩)
    · rw [yM3, if_pos e, if_pos rfl] at H
      exact q_x (by rw [nI_1]; exact ih (k + 1) (by omega) H)
    · rw [yM3, if_neg e, if_neg (by simp)] at H
      exact m_fault (f := 6) (H _ tm_rM (fun q => absurd q (by simp)))
theorem m_head2 {n : Nat} {b : Nat → Fin 256} {M : gMem} {post : Int32 → gMem → Prop} (V : rV n b M) (hn : 52 ≤ n) : ∀ d k, k + d = 7 → 4 ≤ k → (∀ M', rM M M' (sq (fs (yM2 b) d k) (sq (fs (yM3 b) 9 7) (sq (xM4 b) (xH3 n b)))) → ((sq (fs (yM2 b) d k) (sq (fs (yM3 b) 9 7) (sq (xM4 b) (xH3 n b)))).1 = 0 → eV b M') → post (nI (sq (fs (yM2 b) d k) (sq (fs (yM3 b) 9 7) (sq (xM4 b) (xH3 n b)))).1) M') → wl_MO_head_93 post (d + 1) (nI k) M := by
  intro d
  induction d with
  | zero =>
    intro k hk h4 H
    unfold wl_MO_head_93
    exact q_le (a := 7) (fun c => ⟨10, m_head3 V hn 9 7 (by omega) H⟩) (fun c => by omega)
  | succ d ih =>
    intro k hk h4 H
    unfold wl_MO_head_93
    rw [sq_fs] at H
    rw [m_f V (by omega)]
    refine q_le (a := 7) (fun c => by omega) (fun c => ⟨m_in V (by omega), q_eq (b := 1) (fun e => ?_) (fun e => ?_)⟩)
    · rw [yM2, if_pos e, if_pos rfl] at H
      exact q_x (by rw [nI_1]; exact ih (k + 1) (by omega) (by omega) H)
    · have hk1 : ¬ (k - 1, k).1 = 0 := by show ¬ k - 1 = 0; omega
      rw [yM2, if_neg e, if_neg hk1] at H
      rw [show nI k - (1 : Int32) = nI (k - 1) from pk_sub (b := 1) (by omega)]
      exact m_fault (f := k - 1) (H _ tm_rM (fun q => absurd q hk1))
theorem m_head {n : Nat} {b : Nat → Fin 256} {M : gMem} {post : Int32 → gMem → Prop} (V : rV n b M) (H : ∀ M', rM M M' (xHd n b) → ((xHd n b).1 = 0 → eV b M') → post (nI (xHd n b).1) M') : wp_MO_head post M := by
  unfold wp_MO_head
  have h8 := V.1
  rw [V.2.2.1]
  unfold xHd at H
  refine q_le (a := 52) (fun c => ?_) (fun c => ?_)
  · rw [xMk, if_neg (by omega), sq_sq, sq_sq, sq_sq] at H
    have e0 := m_f (p := 0) V (by omega)
    have e1 := m_f (p := 1) V (by omega)
    have e2 := m_f (p := 2) V (by omega)
    have e3 := m_f (p := 3) V (by omega)
    have i0 := m_in (p := 0) V (by omega)
    have i1 := m_in (p := 1) V (by omega)
    have i2 := m_in (p := 2) V (by omega)
    have i3 := m_in (p := 3) V (by omega)
    have l0 := gMg_lt 0
    have l1 := gMg_lt 1
    have l2 := gMg_lt 2
    have l3 := gMg_lt 3
    rw [show (0 : Int32).toNatClampNeg = (nI 0).toNatClampNeg from rfl, show (1 : Int32).toNatClampNeg = (nI 1).toNatClampNeg from rfl, show (2 : Int32).toNatClampNeg = (nI 2).toNatClampNeg from rfl, show (3 : Int32).toNatClampNeg = (nI 3).toNatClampNeg from rfl, e0, e1, e2, e3]
    refine ⟨i0, q_eq (b := gMg 0) (fun c0 => ⟨i1, q_eq (b := gMg 1) (fun c1 => ⟨i2, q_eq (b := gMg 2) (fun c2 => ⟨i3, q_eq (b := gMg 3) (fun c3 => ⟨4, m_head2 V c 3 4 (by omega) (by omega) ?_⟩) (fun c3 => ?_)⟩) (fun c2 => ?_)⟩) (fun c1 => ?_)⟩) (fun c0 => ?_)⟩
    all_goals rw [sq_fs] at H
    · rw [if_pos (by rw [yM1, if_pos c0]), sq_fs, if_pos (by rw [yM1, if_pos c1]), sq_fs, if_pos (by rw [yM1, if_pos c2]), sq_fs, if_pos (by rw [yM1, if_pos c3])] at H
      exact H
    · rw [if_pos (by rw [yM1, if_pos c0]), sq_fs, if_pos (by rw [yM1, if_pos c1]), sq_fs, if_pos (by rw [yM1, if_pos c2]), sq_fs, yM1, if_neg c3, if_neg (by simp)] at H
      exact m_fault (f := 2) (p := 3) (H _ tm_rM (fun q => absurd q (by simp)))
    · rw [if_pos (by rw [yM1, if_pos c0]), sq_fs, if_pos (by rw [yM1, if_pos c1]), sq_fs, yM1, if_neg c2, if_neg (by simp)] at H
      exact m_fault (f := 2) (p := 2) (H _ tm_rM (fun q => absurd q (by simp)))
    · rw [if_pos (by rw [yM1, if_pos c0]), sq_fs, yM1, if_neg c1, if_neg (by simp)] at H
      exact m_fault (f := 2) (p := 1) (H _ tm_rM (fun q => absurd q (by simp)))
    · rw [yM1, if_neg c0, if_neg (by simp)] at H
      exact m_fault (f := 2) (p := 0) (H _ tm_rM (fun q => absurd q (by simp)))
  · rw [xMk, if_pos c, sq, if_neg (by simp)] at H
    exact m_fault (f := 1) (H _ tm_rM (fun q => absurd q (by simp)))
/-- what a good head says -/
theorem hd_ok {n : Nat} {b : Nat → Fin 256} (h : (xHd n b).1 = 0) : 52 ≤ n ∧ 52 ≤ (v4 b 32).1 ∧ (v4 b 32).1 + 40 * (v2 b 48).1 ≤ n ∧ 1 ≤ (v2 b 48).1 ∧ (v2 b 48).1 ≤ 16 ∧ 1 ≤ (v2 b 50).1 ∧ (v2 b 50).1 < (v2 b 48).1 := by
  unfold xHd at h
  rw [sq] at h
  by_cases c : (xMk n b).1 = 0
  · rw [if_pos c] at h
    have hn : 52 ≤ n := by
      rw [xMk] at c
      by_cases d : n < 52
      · rw [if_pos d] at c; exact absurd c (by simp)
      · omega
    unfold xH3 at h
    by_cases d : xH4 b = 0
    · rw [if_pos d] at h
      by_cases e : (v4 b 32).1 + 40 * (v2 b 48).1 ≤ n
      · unfold xH4 xH5 at d
        repeat' split at d
        all_goals first | omega | skip
      · rw [if_neg e] at h; exact absurd h (by simp)
    · rw [if_neg d] at h; exact absurd h (by simp)
  · rw [if_neg c] at h; exact absurd h c
