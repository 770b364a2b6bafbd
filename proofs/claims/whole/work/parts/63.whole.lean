set_option maxRecDepth 100000 in
set_option maxHeartbeats 4000000 in
/-- the claim's walk out of two pure statements: behind the constructors P holds; from P on the law's loop ends in true -/
theorem whole_of {P : gMem → Prop} (hinit : wp_MO_initB P (im_MO (mpN (im_OF_init_0 (mpN (fun _ _ => 0) 0)) 41))) (hlaw : ∀ (xs : Nat → Int32) (L : Nat) (M : gMem), L ≤ 3072 → P M → wp_LW_law (fun _ => True) xs L M) {p : Program} {e : Env} {s : State} {m : MethodId} {below : List Frame} {meth : Method} {c : Code} (l : Launch) {b L : Nat} {xs : Nat → Int32} (hL : L ≤ 3072) (C0 : lw_At p s m meth c b L xs) : W p l e room_1 s m #[Value.ref b] below meth c s.heap [] 0 0 (lw_Z below #[Value.ref b] s) (entryFrame m ([Value.ref b] : List Value).toArray 4) := by
  obtain ⟨hx, hb, hr, hml, hown, hts, hX, hbl, hlocks, hgv⟩ := id C0
  obtain ⟨D, ta, sa, hK⟩ := st_K hts hgv
  have X : CallFix p m c code 4 s #[Value.ref b] gTs "ObjectFileLaw" := ⟨hx, hb, hml, hown, fun w h => hts w (gTs_tbl w h)⟩
  have G : GA [] gCl D ta s.heap.size p l e room_1 s m #[Value.ref b] below meth c 0 0 (lw_Z below #[Value.ref b] s) 4 0 [(0, .ref b)] [] (fun _ _ => 0) := by
    refine a_new X hK.1 (C := cR_OF) (T := cT_OF) (N := 9) (ci := 7) (k := 0) (fs := [some none, some none, some none, some none, some none, some none, some none, some none, none]) in_OF cY_OF ty_OF (gT0 (gI1 17 rfl) rfl : Cond.classLink "ObjectFileLaw" 7 "ObjectFile" ∈ gTs) (gT0 (gI1 18 rfl) rfl : Cond.instantiable "ObjectFile" 9 ∈ gTs) (gT0 (gI1 1 rfl) rfl : Cond.initialized "ObjectFile" ∈ gTs) rfl (df_OF s.heap.size) rfl (Nat.le_of_ble_eq_true rfl) (Nat.le_of_ble_eq_true rfl) dLW_law_0 ?_
    refine a_dup X dLW_law_3 rfl ?_
    refine a_lay (lay2 := hL_0) (by decide +kernel) ?_
    refine a_init X hK gTs_ok mw_OF_init (gT0 (gI1 19 rfl) rfl : Cond.methodLink "ObjectFileLaw" 9 ⟨"ObjectFile", "<init>", "()V"⟩ ∈ gTs) mi_OF_init rfl (As := []) rfl ⟨Nat.le_of_ble_eq_true rfl, Nat.le_of_ble_eq_true rfl, Nat.le_of_ble_eq_true rfl, Nat.le_of_ble_eq_true rfl⟩ (i_OF_init_0 _) (rest := [.ref (s.heap.size + 0)]) rfl (Nat.le_of_ble_eq_true rfl) dLW_law_4 ?_
    refine a_astore_n X (L' := [(1, .ref (s.heap.size + 0)), (0, .ref b)]) dLW_law_7 rfl (Nat.le_of_ble_eq_true rfl) rfl ?_
    refine a_new X hK.1 (C := cR_MO) (T := cT_MO) (N := 41) (ci := 8) (k := 41) (fs := [some none, some none, some none, some none, some none, some none, some none, some none, some none, some none, some none, some none, some none, some none, some none, some none, some none, some none, some none, some none, none, some none, none, none, some none, some none, some none, some none, some none, some none, none, some none, none, some none, some none, some none, none, some none, some none, none, none]) in_MO cY_MO ty_MO (gT0 (gI4 202 rfl) rfl : Cond.classLink "ObjectFileLaw" 10 "ObjectFileModel" ∈ gTs) (gT0 (gI4 203 rfl) rfl : Cond.instantiable "ObjectFileModel" 41 ∈ gTs) (gT0 (gI1 9 rfl) rfl : Cond.initialized "ObjectFileModel" ∈ gTs) rfl (df_MO s.heap.size) rfl (Nat.le_of_ble_eq_true rfl) (Nat.le_of_ble_eq_true rfl) dLW_law_8 ?_
    refine a_dup X dLW_law_11 rfl ?_
    refine a_lay (lay2 := hL_19) (by decide +kernel) ?_
    refine a_initJ X hK gTs_ok mw_MO_init (gT0 (gI4 204 rfl) rfl : Cond.methodLink "ObjectFileLaw" 12 ⟨"ObjectFileModel", "<init>", "()V"⟩ ∈ gTs) mi_MO_init rfl (As := []) rfl ⟨Nat.le_of_ble_eq_true rfl, Nat.le_of_ble_eq_true rfl, Nat.le_of_ble_eq_true rfl, Nat.le_of_ble_eq_true rfl⟩ (i_MO hinit) (rest := [.ref (s.heap.size + 41)]) rfl (Nat.le_of_ble_eq_true rfl) dLW_law_12 (fun M' hM' => ?_)
    refine g_astore_n X (L' := [(2, .ref (s.heap.size + 41)), (1, .ref (s.heap.size + 0)), (0, .ref b)]) dLW_law_15 rfl (Nat.le_of_ble_eq_true rfl) rfl ?_
    exact m_LW_law rfl X hK hr hlocks hX hbl (hlaw xs L M' hL hM')
  have hl := lv_entry ([.ref b]) (n := 4) (Nat.le_of_ble_eq_true rfl)
  rw [lg_entry_eq]
  exact G s.heap [] _ rfl (fun k q h => by simp [hWd] at h) va_S.rf hl

