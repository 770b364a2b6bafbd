/-! What the start gives: the classes, the array classes, the nest's words, the tables, the String constants. -/
theorem st_tab {args : Array Value} {s : State} {C n : String} (tb : List Int32) {A : Nat → Prop} (hl : (Cond.laysStatic C n "[I").before args s = true) (hini : (Cond.initialized C).before args s = true) (harr : (Cond.arrayOf (.static C n "[I") .int).before args s = true) (hlen : (Cond.eq (.length (.static C n "[I")) (.int (Int32.ofNat tb.length))).before args s = true) (hel : ∀ j : Nat, j < tb.length → (Cond.eq (.elem (.static C n "[I") (.int (Int32.ofNat j))) (.int (tb.getD j 0))).before args s = true) (hN : tb.length < 2 ^ 31) (hA : ∀ a : Nat, a < s.heap.size → ¬ A a) : ∃ t : Nat, va_Z C n "[I" (.ref t) A s s.heap ∧ va_T .int t tb.length (fun i => .int (tb.getD i 0)) A s s.heap := by
  obtain ⟨t, ht, hT⟩ := va_Tof (f := fun i => .int (tb.getD i 0)) hN harr (va_eqt hlen) (fun j hj => va_eqt (hel j hj)) hA
  exact ⟨t, va_Zref hl hini ht hA, hT⟩
def st_el (C n : String) (tb : List Int32) : List Cond := (List.range tb.length).map (fun j => Cond.eq (.elem (.static C n "[I") (.int (Int32.ofNat j))) (.int (tb.getD j 0)))
theorem st_el_at {C n : String} {tb : List Int32} {j : Nat} (h : j < tb.length) : Cond.eq (.elem (.static C n "[I") (.int (Int32.ofNat j))) (.int (tb.getD j 0)) ∈ st_el C n tb := List.mem_map.mpr ⟨j, List.mem_range.mpr h, rfl⟩
def st_tabc (C n : String) (tb : List Int32) : List Cond := Cond.arrayOf (.static C n "[I") .int :: Cond.eq (.length (.static C n "[I")) (.int (Int32.ofNat tb.length)) :: st_el C n tb
theorem st_tab2 {args : Array Value} {s : State} {C n : String} (tb : List Int32) {A : Nat → Prop} (hl : Cond.laysStatic C n "[I" ∈ lw_tbl) (hini : Cond.initialized C ∈ lw_tbl) (hts : ∀ w ∈ lw_tbl, w.before args s = true) (hfl : ∀ w ∈ flatC (Jvm.Cond.and given_1 narrow_1), w.before args s = true) (hin : ∀ w ∈ st_tabc C n tb, w ∈ flatC (Jvm.Cond.and given_1 narrow_1)) (hN : tb.length < 2 ^ 31) (hA : ∀ a : Nat, a < s.heap.size → ¬ A a) : ∃ t : Nat, va_Z C n "[I" (.ref t) A s s.heap ∧ va_T .int t tb.length (fun i => .int (tb.getD i 0)) A s s.heap :=
  st_tab tb (hts _ hl) (hts _ hini) (hfl _ (hin _ List.mem_cons_self)) (hfl _ (hin _ (List.mem_cons_of_mem _ List.mem_cons_self))) (fun j hj => hfl _ (hin _ (List.mem_cons_of_mem _ (List.mem_cons_of_mem _ (st_el_at hj))))) hN hA
def st_tm (i : Nat) : Term := .string "ObjectFile" (203 + 2 * i)
abbrev st_v (i : Nat) : Term := .field (st_tm i) "java/lang/String" "value" "[B"
def st_strc : List Cond := (List.range gSn).flatMap (fun i => [Cond.exactly (st_tm i) "java/lang/String", Cond.eq (.field (st_tm i) "java/lang/String" "coder" "B") (.int 0), Cond.arrayOf (st_v i) .byte, Cond.eq (.length (st_v i)) (.int (Int32.ofNat (gSlens.getD i 0)))] ++ (List.range (gSlens.getD i 0)).map (fun j => Cond.eq (.elem (st_v i) (.int (Int32.ofNat j))) (.int ((gSbyts.getD i []).getD j 0))))
def st_ne (i j : Nat) : Bool := decide (Cond.not (Cond.eq (st_tm i) (st_tm j)) ∈ flatC narrow_1) || decide (Cond.not (Cond.eq (st_tm j) (st_tm i)) ∈ flatC narrow_1)
set_option maxRecDepth 100000 in
theorem st_strc_in : ∀ w ∈ st_strc, w ∈ flatC (Jvm.Cond.and given_1 narrow_1) := by decide +kernel
set_option maxRecDepth 100000 in
theorem st_ne_ok : ∀ i, i < gSn → ∀ j, j < gSn → i ≠ j → st_ne i j = true := by decide +kernel
theorem st_strc_at {i : Nat} {w : Cond} (hi : i < gSn) (h : w ∈ [Cond.exactly (st_tm i) "java/lang/String", Cond.eq (.field (st_tm i) "java/lang/String" "coder" "B") (.int 0), Cond.arrayOf (st_v i) .byte, Cond.eq (.length (st_v i)) (.int (Int32.ofNat (gSlens.getD i 0)))] ++ (List.range (gSlens.getD i 0)).map (fun j => Cond.eq (.elem (st_v i) (.int (Int32.ofNat j))) (.int ((gSbyts.getD i []).getD j 0)))) : w ∈ flatC (Jvm.Cond.and given_1 narrow_1) := st_strc_in w (List.mem_flatMap.mpr ⟨i, List.mem_range.mpr hi, h⟩)
theorem st_arr {args : Array Value} {s : State} {ty : FieldType} (hr : va_RA s 0 ty = (s.vm.findClass ("[" ++ ty.toString) = some 0)) (hp : ∀ cA : ClassId, va_RA s cA ty = (s.vm.findClass ("[" ++ ty.toString) = some cA)) (h : (Cond.arrayClass ty).before args s = true) : ∃ cA : ClassId, ArrOfT s cA ty ∧ va_RA s cA ty := by
  obtain ⟨cA, kA, comp, h1, h2, h3⟩ := Cond.arrayClass_spec h
  exact ⟨cA, fun n z => ⟨fun k h => (by cases h), kA, h2, comp, h3⟩, by rw [hp]; exact h1⟩
def st_sa (t0 t1 t2 t3 t4 : Nat) (adK adV : Nat → Nat) (u : Option Nat) (i : Nat) : Nat :=
  if i = 0 then t0 else if i = 1 then t1 else if i = 2 then t2 else if i = 3 then t3 else if i = 4 then t4 else if i < 200 then adK (i - 100) else if i < 300 then adV (i - 200) else match u with | none => 0 | some t => t + 1
theorem st_sa_K {t0 t1 t2 t3 t4 : Nat} {adK adV : Nat → Nat} {u : Option Nat} {k : Nat} (h : k < 11) : st_sa t0 t1 t2 t3 t4 adK adV u (100 + k) = adK k := by
  unfold st_sa
  rw [if_neg (by omega), if_neg (by omega), if_neg (by omega), if_neg (by omega), if_neg (by omega), if_pos (by omega), Nat.add_sub_cancel_left]
theorem st_sa_V {t0 t1 t2 t3 t4 : Nat} {adK adV : Nat → Nat} {u : Option Nat} {k : Nat} (h : k < 11) : st_sa t0 t1 t2 t3 t4 adK adV u (200 + k) = adV k := by
  unfold st_sa
  rw [if_neg (by omega), if_neg (by omega), if_neg (by omega), if_neg (by omega), if_neg (by omega), if_neg (by omega), if_pos (by omega), Nat.add_sub_cancel_left]
theorem st_sa_u {t0 t1 t2 t3 t4 : Nat} {adK adV : Nat → Nat} {u : Option Nat} : gSu (st_sa t0 t1 t2 t3 t4 adK adV u) = va_rf u := by
  unfold gSu st_sa
  cases u with
  | none => simp
  | some t => simp
theorem gI_tbl {w : Cond} (h : w ∈ tables_1) : w ∈ lw_tbl := List.mem_append_right _ h
set_option maxRecDepth 100000 in
set_option maxHeartbeats 4000000 in
theorem st_K {args : Array Value} {s : State} (hts : ∀ w ∈ lw_tbl, w.before args s = true) (hgv : (Jvm.Cond.and given_1 narrow_1).before args s = true) : ∃ (D : va_G) (ta : Nat → ClassId) (sa : Nat → Nat), gK gCl D ta s.heap.size gNw sa gTabs s := by
  have hfl := flat_of_before _ hgv
  have hA : ∀ a : Nat, a < s.heap.size → ¬ (fun q => s.heap.size ≤ q) a := fun a h => Nat.not_le.mpr h
  have hT : ∀ w ∈ gTs, w.before args s = true := fun w h => hts w (gTs_tbl w h)
  obtain ⟨c0, iS0, hKn0⟩ := u_known (C := cR_CT) (T := cT_CT) (N := 10) (n := 10) hT in_CT (hts _ (gI_tbl (gI1 26 rfl)))
  obtain ⟨c1, iS1, hKn1⟩ := u_known (C := cR_DI) (T := cT_DI) (N := 10) (n := 10) hT in_DI (hts _ (gI_tbl (gI1 174 rfl)))
  obtain ⟨c2, iS2, hKn2⟩ := u_known (C := cR_FB) (T := cT_FB) (N := 2) (n := 2) hT in_FB (hts _ (gI_tbl (gI1 80 rfl)))
  obtain ⟨c3, iS3, hKn3⟩ := u_known (C := cR_FI) (T := cT_FI) (N := 1) (n := 1) hT in_FI (hts _ (gI_tbl (gI1 163 rfl)))
  obtain ⟨c4, iS4, hKn4⟩ := u_known (C := cR_RE) (T := cT_RE) (N := 4) (n := 4) hT in_RE (hts _ (gI_tbl (gI1 215 rfl)))
  obtain ⟨c5, iS5, hKn5⟩ := u_known (C := cR_ST) (T := cT_ST) (N := 2) (n := 2) hT in_ST (hts _ (gI_tbl (gI1 102 rfl)))
  obtain ⟨c6, iS6, hKn6⟩ := u_known (C := cR_WR) (T := cT_WR) (N := 15) (n := 15) hT in_WR (hts _ (gI_tbl (gI1 96 rfl)))
  obtain ⟨c7, iS7, hKn7⟩ := u_known (C := cR_OF) (T := cT_OF) (N := 9) (n := 9) hT in_OF (hts _ (gI_tbl (gI1 18 rfl)))
  obtain ⟨c8, iS8, hKn8⟩ := u_known (C := cR_MO) (T := cT_MO) (N := 41) (n := 41) hT in_MO (hts _ (gI_tbl (gI4 203 rfl)))
  obtain ⟨dC, dI, hKc⟩ : ∃ (dC : Nat → ClassId) (dI : Nat → Nat → Nat), ∀ (k : Nat) (q : vw_C), gCl[k]? = some q → u_Kn s q.1 q.2.1 q.2.2 (dC k) (dI k) := by
    refine ⟨fun k => if k = 0 then c0 else if k = 1 then c1 else if k = 2 then c2 else if k = 3 then c3 else if k = 4 then c4 else if k = 5 then c5 else if k = 6 then c6 else if k = 7 then c7 else c8, fun k => if k = 0 then iS0 else if k = 1 then iS1 else if k = 2 then iS2 else if k = 3 then iS3 else if k = 4 then iS4 else if k = 5 then iS5 else if k = 6 then iS6 else if k = 7 then iS7 else iS8, ?_⟩
    intro k q hq
    match k, hq with
    | 0, hq => cases hq; exact hKn0
    | 1, hq => cases hq; exact hKn1
    | 2, hq => cases hq; exact hKn2
    | 3, hq => cases hq; exact hKn3
    | 4, hq => cases hq; exact hKn4
    | 5, hq => cases hq; exact hKn5
    | 6, hq => cases hq; exact hKn6
    | 7, hq => cases hq; exact hKn7
    | 8, hq => cases hq; exact hKn8
    | k + 9, hq => simp [gCl] at hq
  obtain ⟨cI, hI1, hI2⟩ := st_arr (s := s) (ty := .int) rfl (fun _ => rfl) (hts _ (gI_tbl (gI1 78 rfl)))
  obtain ⟨cB, hB1, hB2⟩ := st_arr (s := s) (ty := .byte) rfl (fun _ => rfl) (hts _ (gI_tbl (gI1 77 rfl)))
  obtain ⟨t0, h0⟩ := st_tab2 (C := "ObjectFile") (n := "ALIGNMENTS") gTb0 (A := fun q => s.heap.size ≤ q) (gI_tbl (gI3 46 rfl)) (gI_tbl (gI1 1 rfl)) hts hfl (by decide +kernel) (by decide) hA
  obtain ⟨t1, h1⟩ := st_tab2 (C := "ObjectFile") (n := "FLAGS") gTb1 (A := fun q => s.heap.size ≤ q) (gI_tbl (gI3 125 rfl)) (gI_tbl (gI1 1 rfl)) hts hfl (by decide +kernel) (by decide) hA
  obtain ⟨t2, h2⟩ := st_tab2 (C := "ObjectFile") (n := "MAGIC") gTb2 (A := fun q => s.heap.size ≤ q) (gI_tbl (gI3 65 rfl)) (gI_tbl (gI1 1 rfl)) hts hfl (by decide +kernel) (by decide) hA
  obtain ⟨t3, h3⟩ := st_tab2 (C := "ObjectFile") (n := "SORTS") gTb3 (A := fun q => s.heap.size ≤ q) (gI_tbl (gI3 123 rfl)) (gI_tbl (gI1 1 rfl)) hts hfl (by decide +kernel) (by decide) hA
  obtain ⟨t4, h4⟩ := st_tab2 (C := "ObjectFile") (n := "UNITS") gTb4 (A := fun q => s.heap.size ≤ q) (gI_tbl (gI3 138 rfl)) (gI_tbl (gI1 1 rfl)) hts hfl (by decide +kernel) (by decide) hA
  obtain ⟨adK, adV, hS, hSe⟩ := vk_Sof (s := s) (args := args) (N := gSn) (tm := st_tm) (len := gSlens) (byt := gSbyts) (A := fun q => s.heap.size ≤ q) (by decide +kernel) (fun i hi => hfl _ (st_strc_at hi (List.mem_append_left _ List.mem_cons_self))) (fun i hi => hfl _ (st_strc_at hi (List.mem_append_left _ (List.mem_cons_of_mem _ List.mem_cons_self)))) (fun i hi => hfl _ (st_strc_at hi (List.mem_append_left _ (List.mem_cons_of_mem _ (List.mem_cons_of_mem _ List.mem_cons_self))))) (fun i hi => hfl _ (st_strc_at hi (List.mem_append_left _ (List.mem_cons_of_mem _ (List.mem_cons_of_mem _ (List.mem_cons_of_mem _ List.mem_cons_self)))))) (fun i hi j hj => hfl _ (st_strc_at hi (List.mem_append_right _ (List.mem_map.mpr ⟨j, List.mem_range.mpr hj, rfl⟩)))) (fun i j hi hj hij => by
    have h := st_ne_ok i hi j hj hij
    unfold st_ne at h
    rcases Bool.or_eq_true _ _ ▸ h with h | h
    · exact Or.inl (hfl _ (by show _ ∈ flatC given_1 ++ flatC narrow_1; exact List.mem_append_right _ (of_decide_eq_true h)))
    · exact Or.inr (hfl _ (by show _ ∈ flatC given_1 ++ flatC narrow_1; exact List.mem_append_right _ (of_decide_eq_true h)))) hA
  have hC : va_Z "java/lang/String" "COMPACT_STRINGS" "Z" (.int 1) (fun q => s.heap.size ≤ q) s s.heap := va_Zof (hts _ (gI_tbl (gI2 235 rfl))) (hts _ (gI_tbl (gI1 12 rfl))) (va_eqi (hfl _ (by decide +kernel))) hA
  obtain ⟨u, hU⟩ : ∃ u : Option Nat, va_Z "jdk/internal/util/Preconditions" "SIOOBE_FORMATTER" "Ljava/util/function/BiFunction;" (va_rf u) (fun q => s.heap.size ≤ q) s s.heap := by
    rcases va_Zqof (s := s) (args := args) (hts _ (gI_tbl (gI3 14 rfl))) (hts _ (gI_tbl (gI1 15 rfl))) (hfl (.isRef (.static "jdk/internal/util/Preconditions" "SIOOBE_FORMATTER" "Ljava/util/function/BiFunction;")) (by decide +kernel)) hA with h | ⟨t, h⟩
    · exact ⟨none, h⟩
    · exact ⟨some t, h⟩
  refine ⟨(dC, dI), fun t => if t = 0 then cI else cB, st_sa t0 t1 t2 t3 t4 adK adV u, ⟨hKc, fun k q hq => ?_⟩, fun w hw => ⟨gNw_nest w hw, va_Nw.of ?_ (hts w (gI_tbl (List.mem_filter.mp hw).1))⟩, fun j x hx => ?_, ⟨⟨fun i hi => ?_, fun i j hi hj h => ?_⟩, fun k x hx => ?_, hC, ?_⟩⟩
  · match k, hq with
    | 0, hq => cases hq; exact ⟨hI1, hI2⟩
    | 1, hq => cases hq; exact ⟨hB1, hB2⟩
    | k + 2, hq => simp [gTys] at hq
  · rcases gNw_nest w hw with ⟨_, _, _, _, _, _, rfl⟩ | ⟨_, _, _, _, rfl⟩ <;> rfl
  · match j, hx with
    | 0, hx => cases hx; exact h0
    | 1, hx => cases hx; exact h1
    | 2, hx => cases hx; exact h2
    | 3, hx => cases hx; exact h3
    | 4, hx => cases hx; exact h4
    | j + 5, hx => simp [gTabs] at hx
  · have h := hS.1 i hi
    show va_O _ (st_sa t0 t1 t2 t3 t4 adK adV u (100 + i)) _ _ _ ∧ va_OF _ _ _ _ (st_sa t0 t1 t2 t3 t4 adK adV u (100 + i)) _ _ _ ∧ va_OF _ _ _ (.ref (st_sa t0 t1 t2 t3 t4 adK adV u (200 + i))) (st_sa t0 t1 t2 t3 t4 adK adV u (100 + i)) _ _ _ ∧ va_T _ (st_sa t0 t1 t2 t3 t4 adK adV u (200 + i)) _ _ _ _ _
    rw [st_sa_K hi, st_sa_V hi]
    exact h
  · have h' : st_sa t0 t1 t2 t3 t4 adK adV u (100 + i) = st_sa t0 t1 t2 t3 t4 adK adV u (100 + j) := h
    rw [st_sa_K hi, st_sa_K hj] at h'
    exact hS.2 i j hi hj h'
  · have hk : k < 11 := (List.getElem?_eq_some_iff.mp hx).1
    rw [st_sa_K hk]
    have hw : ∀ (k : Nat) (x : String × Nat × String), gSrefs[k]? = some x → Cond.stringRef x.1 x.2.1 x.2.2 ∈ tables_1 ∧ (x.1 = "ObjectFile" ∧ x.2.1 = 203 + 2 * k) := by
      intro k x hx
      match k, hx with
      | 0, hx => cases hx; exact ⟨gI2 215 rfl, rfl, rfl⟩
      | 1, hx => cases hx; exact ⟨gI2 216 rfl, rfl, rfl⟩
      | 2, hx => cases hx; exact ⟨gI2 217 rfl, rfl, rfl⟩
      | 3, hx => cases hx; exact ⟨gI2 218 rfl, rfl, rfl⟩
      | 4, hx => cases hx; exact ⟨gI2 219 rfl, rfl, rfl⟩
      | 5, hx => cases hx; exact ⟨gI2 220 rfl, rfl, rfl⟩
      | 6, hx => cases hx; exact ⟨gI2 221 rfl, rfl, rfl⟩
      | 7, hx => cases hx; exact ⟨gI2 222 rfl, rfl, rfl⟩
      | 8, hx => cases hx; exact ⟨gI2 223 rfl, rfl, rfl⟩
      | 9, hx => cases hx; exact ⟨gI2 224 rfl, rfl, rfl⟩
      | 10, hx => cases hx; exact ⟨gI2 225 rfl, rfl, rfl⟩
      | k + 11, hx => simp [gSrefs] at hx
    obtain ⟨g1, g2, g3⟩ := hw k x hx
    have h5 := hSe k hk
    refine vk_R.of (A := args) (hts _ (gI_tbl g1)) ?_
    rw [g2, g3]
    exact h5
  · rw [st_sa_u]
    exact hU

