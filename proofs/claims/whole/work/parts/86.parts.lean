/-! what the parts of a file with a good directory are -/
def rp (b : Nat → Fin 256) (T : Nat) (O : Nat → Nat) : Nat := (ln b T (O 5)).1 / 12 + (ln b T (O 6)).1 / 12 + (ln b T (O 7)).1 / 12
theorem rs_rp {b : Nat → Fin 256} {T : Nat} {q : Nat → Nat} : ∀ {e : Nat}, (∀ k, 1 ≤ k → k < e → eo q k (q k) = 0) → rs b T q e = rp b T (eo q e) := by
  intro e
  induction e with
  | zero =>
    intro _
    have l0 : (ln b T 0).1 = 0 := by rw [ln, if_pos rfl]; rfl
    show 0 = (ln b T 0).1 / 12 + (ln b T 0).1 / 12 + (ln b T 0).1 / 12
    rw [l0]
  | succ k ih =>
    intro h
    have h1 := ih (fun j a1 a2 => h j a1 (by omega))
    show rs b T q k + (if 1 ≤ k ∧ 5 ≤ q k ∧ q k < 8 then (nu b T k 5).1 / 12 else 0) = rp b T (eo q (k + 1))
    rw [h1]
    have e5 : ∀ p, eo q (k + 1) p = if 1 ≤ k ∧ q k = p then k else eo q k p := fun p => rfl
    unfold rp
    rw [e5 5, e5 6, e5 7]
    by_cases c : 1 ≤ k ∧ 5 ≤ q k ∧ q k < 8
    · rw [if_pos c]
      have hz := h k c.1 (by omega)
      have l0 : (ln b T 0).1 = 0 := by rw [ln, if_pos rfl]; rfl
      have lk : (ln b T k).1 = (nu b T k 5).1 := by rw [ln, if_neg (by omega)]
      have : q k = 5 ∨ q k = 6 ∨ q k = 7 := by omega
      rcases this with d | d | d
      · rw [d] at hz
        rw [if_pos ⟨c.1, d⟩, if_neg (by omega), if_neg (by omega), hz, l0, lk]; omega
      · rw [d] at hz
        rw [if_neg (by omega), if_pos ⟨c.1, d⟩, if_neg (by omega), hz, l0, lk]; omega
      · rw [d] at hz
        rw [if_neg (by omega), if_neg (by omega), if_pos ⟨c.1, d⟩, hz, l0, lk]; omega
    · rw [if_neg c]
      by_cases k1 : 1 ≤ k
      · rw [if_neg (by omega), if_neg (by omega), if_neg (by omega)]; omega
      · rw [if_neg (by omega), if_neg (by omega), if_neg (by omega)]; omega
/-- places, lengths, alignments of the parts -/
def pF (n : Nat) (b : Nat → Fin 256) (B W : Nat → Nat) (G : Nat → Nat) : Prop := (∀ p, p < 11 → p ≠ 3 → B p + W p ≤ n) ∧ (W 8 % 16 = 0 ∧ 16 ≤ W 8 ∧ W 8 ≤ 1616) ∧ (0 < W 9 ∧ (b (B 9 + W 9 - 1)).1 = 0) ∧ (∀ p, p < 3 → W p ≤ 2048) ∧ W 3 ≤ 4096 ∧ (W 4 % 2 = 0 ∧ W 4 ≤ 2048) ∧ (W 5 % 12 = 0 ∧ W 6 % 12 = 0 ∧ W 7 % 12 = 0 ∧ W 5 / 12 + W 6 / 12 + W 7 / 12 ≤ 300) ∧ ∀ p, p < 4 → pw (G p)
def Bp (b : Nat → Fin 256) (T E N : Nat) (p : Nat) : Nat := (bg b T (eo (qp b T N) E p)).1
def Wp (b : Nat → Fin 256) (T E N : Nat) (p : Nat) : Nat := (ln b T (eo (qp b T N) E p)).1
def Gp (b : Nat → Fin 256) (T E N : Nat) (p : Nat) : Nat := al b T (eo (qp b T N) E p)
theorem pF_of {n : Nat} {b : Nat → Fin 256} {T E N : Nat} (hE : 1 ≤ E ∧ E ≤ 16) (h : gD n b T E N) (h2 : (xLb b T E N).1 = 0) : pF n b (Bp b T E N) (Wp b T E N) (Gp b T E N) := by
  obtain ⟨A, h15, Q, hW, hO, hL, h20⟩ := h
  have key : ∀ p, eo (qp b T N) E p ≠ 0 → Bp b T E N p = (nu b T (eo (qp b T N) E p) 4).1 ∧ Wp b T E N p = (nu b T (eo (qp b T N) E p) 5).1 ∧ (nu b T (eo (qp b T N) E p) 1).1 = tSo p ∧ lok p (nu b T (eo (qp b T N) E p) 5).1 ∧ p < 11 ∧ pw (nu b T (eo (qp b T N) E p) 8).1 ∧ ((nu b T (eo (qp b T N) E p) 1).1 = 8 ∨ (nu b T (eo (qp b T N) E p) 4).1 + (nu b T (eo (qp b T N) E p) 5).1 ≤ n) := by
    intro p hp
    obtain ⟨i1, i2, i3⟩ := Q.2 p hp
    have a1 := A _ i1 i2
    have a2 := yW_1 (hW _ i1 i2)
    have a3 := (hL _ i1 i2).1
    have a4 := (Q.1 _ i1 i2).1
    rw [i3] at a2 a3 a4
    exact ⟨by rw [Bp, bg, if_neg hp], by rw [Wp, ln, if_neg hp], a2, a3, a4, a1.2, a1.1⟩
  have kz : ∀ p, eo (qp b T N) E p = 0 → Bp b T E N p = 0 ∧ Wp b T E N p = 0 := fun p hp => ⟨by rw [Bp, bg, if_pos hp]; rfl, by rw [Wp, ln, if_pos hp]; rfl⟩
  have lk : ∀ p, p < 11 → lok p (Wp b T E N p) ∨ Wp b T E N p = 0 := by
    intro p hp
    by_cases c : eo (qp b T N) E p = 0
    · exact Or.inr (kz p c).2
    · have := key p c; rw [this.2.1]; exact Or.inl this.2.2.2.1
  refine ⟨fun p hp h3 => ?_, ?_, ?_, fun p hp => ?_, ?_, ?_, ⟨?_, ?_, ?_, ?_⟩, fun p hp => ?_⟩
  · by_cases c : eo (qp b T N) E p = 0
    · have := kz p c; omega
    · have := key p c
      have h8 : tSo p ≠ 8 := by
        rw [tSo_m p hp, if_neg h3]
        repeat' split
        all_goals omega
      omega
  · have := (key 8 hO.1)
    have l := this.2.2.2.1
    rw [← this.2.1] at l
    exact l
  · have := (key 9 hO.2)
    have s := yS_0 (by omega) h20
    rw [this.1, this.2.1]
    exact ⟨s.2.1, s.2.2.2⟩
  · rcases lk p (by omega) with l | l
    · unfold lok at l
      rw [if_neg (by omega), if_neg (by omega), if_neg (by omega), if_neg (by omega), if_neg (by omega)] at l
      exact l
    · omega
  · rcases lk 3 (by omega) with l | l
    · exact l
    · omega
  · rcases lk 4 (by omega) with l | l
    · exact l
    · omega
  · rcases lk 5 (by omega) with l | l
    · exact l
    · omega
  · rcases lk 6 (by omega) with l | l
    · exact l
    · omega
  · rcases lk 7 (by omega) with l | l
    · exact l
    · omega
  · have hk : ∀ k, 1 ≤ k → k < E → eo (qp b T N) k (qp b T N k) = 0 := by
      intro k a1 a2
      have := fs_0 h2 k a1 (by omega)
      unfold yL at this
      by_cases c : qp b T N k = 11
      · rw [if_pos c] at this; exact absurd this (by simp)
      · rw [if_neg c] at this
        by_cases d : eo (qp b T N) k (qp b T N k) = 0
        · exact d
        · rw [if_neg d] at this; exact absurd this (by simp)
    have hr := rs_rp (b := b) (T := T) hk
    show rp b T (eo (qp b T N) E) ≤ 300
    rw [← hr]
    by_cases c : E = 1
    · subst c; show rs b T (qp b T N) 0 + _ ≤ 300
      rw [if_neg (fun z => absurd z.1 (by decide))]; show 0 + 0 ≤ 300; omega
    · have := (hL (E - 1) (by omega) (by omega)).2
      rw [show E - 1 + 1 = E by omega] at this
      exact this
  · by_cases c : eo (qp b T N) E p = 0
    · rw [Gp, al, if_pos c]; exact Or.inl rfl
    · rw [Gp, al, if_neg c]; exact (key p c).2.2.2.2.2.1
/-! names -/
def nlS (b : Nat → Fin 256) (p : Nat) : Nat → Nat → Nat
  | 0, _ => 0
  | d + 1, i => if (b (p + i)).1 = 0 then i else if 33 ≤ (b (p + i)).1 ∧ (b (p + i)).1 ≤ 126 then nlS b p d (i + 1) else 0
def nlc (b : Nat → Fin 256) (p : Nat) : Nat := nlS b p 17 0
def gn (b : Nat → Fin 256) (p m : Nat) : Prop := 1 ≤ m ∧ m ≤ 16 ∧ (b (p + m)).1 = 0 ∧ ∀ i, i < m → 33 ≤ (b (p + i)).1 ∧ (b (p + i)).1 ≤ 126
theorem nlS_g {b : Nat → Fin 256} {p : Nat} : ∀ d i, i + d = 17 → (∀ j, j < i → 33 ≤ (b (p + j)).1 ∧ (b (p + j)).1 ≤ 126) → nlS b p d i ≠ 0 → gn b p (nlS b p d i) := by
  intro d
  induction d with
  | zero => intro i _ _ h; exact absurd rfl h
  | succ d ih =>
    intro i hi hj h
    unfold nlS at h ⊢
    by_cases c : (b (p + i)).1 = 0
    · rw [if_pos c] at h ⊢
      exact ⟨by omega, by omega, c, hj⟩
    · rw [if_neg c] at h ⊢
      by_cases e : 33 ≤ (b (p + i)).1 ∧ (b (p + i)).1 ≤ 126
      · rw [if_pos e] at h ⊢
        refine ih (i + 1) (by omega) (fun j a => ?_) h
        by_cases f : j = i
        · rw [f]; exact e
        · exact hj j (by omega)
      · rw [if_neg e] at h; exact absurd rfl h
theorem nlc_g {b : Nat → Fin 256} {p : Nat} (h : nlc b p ≠ 0) : gn b p (nlc b p) := nlS_g 17 0 (by omega) (fun j a => by omega) h
theorem nlS_of {b : Nat → Fin 256} {p m : Nat} (g : gn b p m) : ∀ d i, i + d = 17 → i ≤ m → nlS b p d i = m := by
  intro d
  induction d with
  | zero => intro i hi hm; have := g.2.1; omega
  | succ d ih =>
    intro i hi hm
    unfold nlS
    by_cases c : i = m
    · rw [if_pos (by rw [c]; exact g.2.2.1)]; exact c
    · have := g.2.2.2 i (by omega)
      rw [if_neg (by omega), if_pos this]
      exact ih (i + 1) (by omega) (by omega)
theorem nlc_of {b : Nat → Fin 256} {p m : Nat} (g : gn b p m) : nlc b p = m := nlS_of g 17 0 (by omega) (by omega)
def wz (k : Nat) : Int32 := if k = 0 then -1 else nI k
theorem k_nl {n : Nat} {b : Nat → Fin 256} {M : gMem} {post : Int32 → gMem → Prop} {p : Nat} (V : rV n b M) (hp : p < 2 ^ 30) : ∀ d i, i + d = 17 → post (wz (nlS b p d i)) M → wl_RE_nameLength_33 post (d + 1) (nI p) (nI i) M := by
  intro d
  induction d with
  | zero =>
    intro i hi H
    unfold wl_RE_nameLength_33
    exact q_lt (a := 16) (fun c => H) (fun c => by omega)
  | succ d ih =>
    intro i hi H
    unfold wl_RE_nameLength_33
    unfold nlS at H
    rw [nI_add]
    refine q_lt (a := 16) (fun c => by omega) (fun c => k_u1 V (q_ne (b := 0) (fun e => w_nameCh (fun e1 e2 => ?_) (fun e1 => ?_)) (fun e => q_ne (b := 0) (fun f => ?_) (fun f => ?_))))
    · rw [ti_nI (by omega)] at e1 e2
      rw [if_neg e, if_pos (by omega)] at H
      exact q_f' (by decide) (q_x (by rw [nI_1]; exact ih (i + 1) (by omega) H))
    · rw [ti_nI (by omega)] at e1
      rw [if_neg e, if_neg (by omega)] at H
      exact q_t' rfl H
    · rw [if_pos e, wz, if_neg f] at H; exact H
    · rw [if_pos e, wz, if_pos f] at H; exact H
/-! where parts lie, in memory -/
def kP (B W : Nat → Nat) (M : gMem) : Prop := ∀ p, p < 11 → M 36 p = nI (B p) ∧ M 37 p = nI (W p)
theorem k_nameLen {n : Nat} {b : Nat → Fin 256} {B W G : Nat → Nat} {M : gMem} {post : Int32 → gMem → Prop} {P : Nat} (V : rV n b M) (F : pF n b B W G) (K : kP B W M) (hP : P + 3 < n) (H : post (if (v4 b P).1 < W 9 then wz (nlc b (B 9 + (v4 b P).1)) else -1) M) : wp_RE_nameLength post (nI P) M := by
  have h8 := V.1
  have h9 := F.1 9 (by omega) (by omega)
  unfold wp_RE_nameLength wp_RE_nameSpot
  refine k_u4 V ⟨in_9, ?_⟩
  rw [cl_9, (K 9 (by omega)).2, nI_l (by omega)]
  refine ql_lt (fun c => ⟨in_9, k_u4 V ?_⟩) (fun c => ?_)
  · rw [if_pos c] at H
    try dsimp only
    rw [(K 9 (by omega)).1, lN_i, nI_add]
    exact ⟨18, k_nl V (by omega) 17 0 (by omega) H⟩
  · rw [if_neg (by omega)] at H; exact H
theorem m_nl {n : Nat} {b : Nat → Fin 256} {M : gMem} {post : Int32 → gMem → Prop} {p z : Nat} (V : rV n b M) (hz : z < n) (hb : (b z).1 = 0) (hp : p ≤ z) (H : ∀ m, p + m ≤ z → (b (p + m)).1 = 0 → (∀ i, i < m → (b (p + i)).1 ≠ 0) → post (nI m) M) : wp_MO_nameLength post (nI p) M := by
  have h8 := V.1
  refine pk_loop (fun k i M' => wl_MO_nameLength_2 post k (nI p) (nI i) M') (fun i M' => M' = M ∧ ∀ j, j < i → (b (p + j)).1 ≠ 0) (z - p) 0 M (by omega) ⟨rfl, fun j hj => by omega⟩ ?_ ?_
  · rintro k s ⟨rfl, hI⟩
    unfold wl_MO_nameLength_2
    rw [nI_add, m_f V]
    refine ⟨m_in V, q_eq (b := 0) (fun c => H _ (by omega) c hI) (fun c => ?_)⟩
    rw [show p + (z - p) = z by omega] at c
    exact absurd hb c
  · rintro k i s hi ⟨rfl, hI⟩ next
    unfold wl_MO_nameLength_2
    rw [nI_add, m_f V]
    refine ⟨m_in V, q_eq (b := 0) (fun c => H _ (by omega) c hI) (fun c => q_x ?_)⟩
    rw [nI_1]
    refine next s ⟨rfl, fun j hj => ?_⟩
    by_cases d : j = i
    · rw [d]; exact c
    · exact hI j (by omega)
theorem m_isName {n : Nat} {b : Nat → Fin 256} {M : gMem} {post : Bool → gMem → Prop} {p z : Nat} (V : rV n b M) (hz : z < n) (hb : (b z).1 = 0) (hp : p ≤ z) (H1 : nlc b p ≠ 0 → post true M) (H2 : nlc b p = 0 → post false M) : wp_MO_isName post (nI p) M := by
  have h8 := V.1
  refine m_nl V hz hb hp (fun m hm1 hm2 hm3 => ?_)
  have go : ∀ (g0 : Bool), (g0 = true → 1 ≤ m ∧ m ≤ 16) → (g0 = false → ¬ (1 ≤ m ∧ m ≤ 16)) → ∃ n9 : Nat, wl_MO_isName_25 post n9 (nI p) (nI m) (bI g0) (0 : Int32) M := by
    intro g0 hg1 hg2
    refine pk_loop (fun k i s => wl_MO_isName_25 post k (nI p) (nI m) (bI s.1) (nI i) s.2) (fun i s => s.2 = M ∧ (s.1 = true → (1 ≤ m ∧ m ≤ 16) ∧ ∀ j, j < i → 33 ≤ (b (p + j)).1 ∧ (b (p + j)).1 ≤ 126) ∧ (s.1 = false → nlc b p = 0)) m 0 (g0, M) (by omega) ⟨rfl, fun e => ⟨hg1 e, fun j hj => by omega⟩, fun e => ?_⟩ ?_ ?_
    · by_cases c : nlc b p = 0
      · exact c
      · exfalso
        have g := nlc_g c
        refine hg2 e ?_
        have : nlc b p = m := by
          by_cases d : nlc b p < m
          · exact absurd g.2.2.1 (hm3 _ d)
          · by_cases f : nlc b p = m
            · exact f
            · have := (g.2.2.2 m (by omega)).1
              omega
        have := g.1
        have := g.2.1
        omega
    · rintro k ⟨g, s⟩ ⟨e, hI, hJ⟩
      simp only at e hI hJ
      subst e
      unfold wl_MO_isName_25
      refine q_t (nI_le (by omega) (by omega)) ⟨g, rfl, ?_⟩
      cases g
      · exact H2 (hJ rfl)
      · obtain ⟨a1, a2⟩ := hI rfl
        exact H1 (by rw [nlc_of ⟨a1.1, a1.2, hm2, a2⟩]; omega)
    · rintro k i ⟨g, s⟩ hi ⟨e, hI, hJ⟩ next
      simp only at e hI hJ
      subst e
      unfold wl_MO_isName_25
      dsimp only
      rw [nI_add, m_f V]
      have bad : (¬ (33 ≤ (b (p + i)).1 ∧ (b (p + i)).1 ≤ 126)) → nlc b p = 0 := by
        intro c
        by_cases f : nlc b p = 0
        · exact f
        · exfalso
          have g := nlc_g f
          by_cases d : i < nlc b p
          · exact c (g.2.2.2 i d)
          · exact absurd g.2.2.1 (hm3 _ (by omega))
      refine q_f (nI_ge hi (by omega)) ?_
      cases g
      · refine q_t rfl (q_x ?_)
        rw [nI_1]
        exact next (false, s) ⟨rfl, fun z => absurd z (by simp), fun _ => hJ rfl⟩
      · obtain ⟨a1, a2⟩ := hI rfl
        refine q_f (by decide) ⟨m_in V, q_lt (b := 33) (fun c => q_x ?_) (fun c => ⟨m_in V, q_lt (a := 126) (fun d => q_x ?_) (fun d => q_x ?_)⟩)⟩
        · rw [nI_1]
          exact next (false, s) ⟨rfl, fun z => absurd z (by simp), fun _ => bad (by omega)⟩
        · rw [nI_1]
          exact next (false, s) ⟨rfl, fun z => absurd z (by simp), fun _ => bad (by omega)⟩
        · rw [nI_1]
          refine next (true, s) ⟨rfl, fun _ => ⟨a1, fun j hj => ?_⟩, fun z => absurd z (by simp)⟩
          by_cases f : j = i
          · rw [f]; exact ⟨c, d⟩
          · exact a2 j (by omega)
  refine q_le (b := 0) (fun c => go false (fun z => absurd z (by simp)) (fun _ => by omega)) (fun c => q_lt (a := 16) (fun d => go false (fun z => absurd z (by simp)) (fun _ => by omega)) (fun d => go true (fun _ => by omega) (fun z => absurd z (by simp))))
