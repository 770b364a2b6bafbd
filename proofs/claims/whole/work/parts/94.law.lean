/-! the law's loop -/
section
theorem law_loop {xs : Nat → Int32} {L : Nat} (hL : L ≤ 3072) : ∀ (d i : Nat) (M : gMem), L ≤ 6 * (i + d) → 6 * i ≤ L + 6 → pInv M → wl_LW_law_18 (fun _ => True) xs L (d + 1) (nI (6 * i)) M := by
  have e6 : (Int32.ofNat L - (6 : Int32)).toInt = (L : Int) - 6 := by
    rw [ti_sub, ti_ofNat (by omega), show (6 : Int32).toInt = 6 from rfl]
    · rw [ti_ofNat (by omega), show (6 : Int32).toInt = 6 from rfl]; omega
    · rw [ti_ofNat (by omega), show (6 : Int32).toInt = 6 from rfl]; omega
  have ex : ∀ i : Nat, 6 * i ≤ L + 6 → ((Int32.ofNat L - (6 : Int32)) < nI (6 * i) ↔ (L : Int) - 6 < 6 * i) := by
    intro i hi
    rw [ti_lt, e6, ti_nI (by omega)]
    omega
  intro d
  induction d with
  | zero =>
    intro i M hi hj h
    unfold wl_LW_law_18
    refine ⟨fun _ => trivial, fun c => ?_⟩
    exfalso
    rw [ex i hj] at c; omega
  | succ d ih =>
    intro i M hi hj h
    unfold wl_LW_law_18
    refine ⟨fun _ => trivial, fun c => ?_⟩
    rw [ex i hj] at c
    have nx : ∀ M', pInv M' → ∀ x : Int32, x = nI (6 * i) + (6 : Int32) → wl_LW_law_18 (fun _ => True) xs L (d + 1) x M' := by
      intro M' h' x e
      rw [e, show nI (6 * i) + (6 : Int32) = nI (6 * (i + 1)) by rw [show (6 : Int32) = nI 6 from rfl, nI_add]; rfl]
      exact ih (i + 1) M' (by omega) (by omega) h'
    have va : ∀ k : Nat, k < 6 → vp_in (nI (6 * i) + nI k) L := fun k hk => by rw [nI_add]; exact vp_in_nI (by omega) (by omega)
    have v0 : vp_in (nI (6 * i)) L := vp_in_nI (by omega) (by omega)
    have v1 : vp_in (nI (6 * i) + (1 : Int32)) L := va 1 (by omega)
    have v2 : vp_in (nI (6 * i) + (2 : Int32)) L := va 2 (by omega)
    have v3 : vp_in (nI (6 * i) + (3 : Int32)) L := va 3 (by omega)
    have v4 : vp_in (nI (6 * i) + (4 : Int32)) L := va 4 (by omega)
    have v5 : vp_in (nI (6 * i) + (5 : Int32)) L := va 5 (by omega)
    have rb : ∀ {r r' : Bool} {M' : gMem}, (r = r' ∧ pInv M') → (bI r = bI r' → ∀ x : Int32, x = nI (6 * i) + (6 : Int32) → wl_LW_law_18 (fun _ => True) xs L (d + 1) x M') ∧ (¬ bI r = bI r' → False) := fun w => ⟨fun _ => nx _ w.2, fun c => c (by rw [w.1])⟩
    have ri : ∀ {r r' : Int32} {M' : gMem}, (r = r' ∧ pInv M') → (r = r' → ∀ x : Int32, x = nI (6 * i) + (6 : Int32) → wl_LW_law_18 (fun _ => True) xs L (d + 1) x M') ∧ (¬ r = r' → False) := fun w => ⟨fun _ => nx _ w.2, fun c => c w.1⟩
    refine ⟨v0, ?_⟩
    refine ⟨fun _ => mn_wp_OF_clear (fun _ => mn_wp_MO_clear (fun _ w => nx _ w)) (c_clear h), fun _ => ?_⟩
    refine ⟨fun _ => ⟨v1, v2, v3, v4, mn_wp_OF_put (fun _ _ q => ⟨v1, v2, v3, v4, mn_wp_MO_put (fun _ _ w => rb w) q⟩) (c_put h)⟩, fun _ => ?_⟩
    refine ⟨fun _ => ⟨v1, mn_wp_OF_bss (fun _ _ q => ⟨v1, mn_wp_MO_bss (fun _ _ w => rb w) q⟩) (c_bss h)⟩, fun _ => ?_⟩
    refine ⟨fun _ => ⟨v1, v2, mn_wp_OF_align (fun _ _ q => ⟨v1, v2, mn_wp_MO_align (fun _ _ w => rb w) q⟩) (c_align h)⟩, fun _ => ?_⟩
    refine ⟨fun _ => ⟨v1, mn_wp_OF_start (fun _ _ q => ⟨v1, mn_wp_MO_start (fun _ _ w => rb w) q⟩) (c_start h)⟩, fun _ => ?_⟩
    refine ⟨fun _ => ⟨v1, mn_wp_OF_letter (fun _ _ q => ⟨v1, mn_wp_MO_letter (fun _ _ w => rb w) q⟩) (c_letter h)⟩, fun _ => ?_⟩
    refine ⟨fun _ => ⟨v1, v2, v3, v4, v5, mn_wp_OF_symbol (fun _ _ q => ⟨v1, v2, v3, v4, v5, mn_wp_MO_symbol (fun _ _ w => ri w) q⟩) (c_symbol h)⟩, fun _ => ?_⟩
    refine ⟨fun _ => ⟨v1, v2, v3, v4, v5, mn_wp_OF_relocation (fun _ _ q => ⟨v1, v2, v3, v4, v5, mn_wp_MO_relocation (fun _ _ w => ri w) q⟩) (c_relocation h)⟩, fun _ => ?_⟩
    refine ⟨fun _ => mn_wp_OF_write (fun _ _ q => mn_wp_MO_write (fun _ _ w => ri w) q) (c_write h), fun _ => ?_⟩
    refine ⟨fun _ => mn_wp_OF_size (fun _ _ q => mn_wp_MO_size (fun _ _ w => ri w) q) (c_size h), fun _ => ?_⟩
    refine ⟨fun _ => ⟨v1, mn_wp_OF_byteAt (fun _ _ q => ⟨v1, mn_wp_MO_byteAt (fun _ _ w => ri w) q⟩) (c_byteAt h)⟩, fun _ => ?_⟩
    refine ⟨fun _ => ⟨v1, v2, v3, mn_wp_OF_feed (fun _ _ q => ⟨v1, v2, v3, mn_wp_MO_feed (fun _ _ w => rb w) q⟩) (c_feed h)⟩, fun _ => ?_⟩
    refine ⟨fun _ => ⟨v1, mn_wp_OF_cut (fun _ _ q => ⟨v1, mn_wp_MO_cut (fun _ _ w => rb w) q⟩) (c_cut h)⟩, fun _ => ?_⟩
    refine ⟨fun _ => ⟨v1, v2, mn_wp_OF_spoil (fun _ _ q => ⟨v1, v2, mn_wp_MO_spoil (fun _ _ w => ri w) q⟩) (c_spoil h)⟩, fun _ => ?_⟩
    refine ⟨fun _ => mn_wp_OF_read (fun _ _ q => mn_wp_MO_read (fun _ _ w => ri w) q) (c_read h), fun _ => ?_⟩
    refine ⟨fun _ => mn_wp_OF_place (fun _ _ q => mn_wp_MO_place (fun _ _ w => ri w) q) (c_place h), fun _ => ?_⟩
    refine ⟨fun _ => mn_wp_OF_keep (fun _ => mn_wp_MO_keep (fun _ w => nx _ w)) (c_keep h), fun _ => ?_⟩
    refine ⟨fun _ => ⟨v1, v2, mn_wp_OF_section (fun _ _ q => ⟨v1, v2, mn_wp_MO_section (fun _ _ w => ri w) q⟩) (c_section h)⟩, fun _ => ?_⟩
    refine ⟨fun _ => ⟨v1, v2, mn_wp_OF_at (fun _ _ q => ⟨v1, v2, mn_wp_MO_at (fun _ _ w => ri w) q⟩) (c_at h)⟩, fun _ => ?_⟩
    refine ⟨fun _ => ⟨v1, mn_wp_OF_count (fun _ _ q => ⟨v1, mn_wp_MO_count (fun _ _ w => ri w) q⟩) (c_count h)⟩, fun _ => ?_⟩
    refine ⟨fun _ => ⟨v1, mn_wp_OF_startAt (fun _ _ q => ⟨v1, mn_wp_MO_startAt (fun _ _ w => ri w) q⟩) (c_startAt h)⟩, fun _ => ?_⟩
    refine ⟨fun _ => ⟨v1, v2, mn_wp_OF_symbolAt (fun _ _ q => ⟨v1, v2, mn_wp_MO_symbolAt (fun _ _ w => ri w) q⟩) (c_symbolAt h)⟩, fun _ => ?_⟩
    refine ⟨fun _ => ⟨v1, v2, mn_wp_OF_relocationAt (fun _ _ q => ⟨v1, v2, mn_wp_MO_relocationAt (fun _ _ w => ri w) q⟩) (c_relocationAt h)⟩, fun _ => ?_⟩
    exact nx M h
theorem pu_law : ∀ (xs : Nat → Int32) (L : Nat) (M : gMem), L ≤ 3072 → pInv M → wp_LW_law (fun _ => True) xs L M := fun xs L M hL h => ⟨L + 1, law_loop hL L 0 M (by omega) (by omega) h⟩
end
