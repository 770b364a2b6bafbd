/-! bytes of a long: feed and put -/
section
variable {M : gMem}
theorem bx_s {v : Int64} {a : UInt64} {c : Int64} {s : Nat} (hs : s ≤ 56) (ha : a.toBitVec % 64 = BitVec.ofNat 64 s) (hc : c.toBitVec.smod 64 = BitVec.ofNat 64 s) : ((v.toUInt64 >>> a).toInt64).toInt32 &&& 255 = ((v >>> c) &&& (255 : Int64)).toInt32 := by
  have hsn : (BitVec.ofNat 64 s).toNat = s := by rw [BitVec.toNat_ofNat]; exact Nat.mod_eq_of_lt (by omega)
  apply Int32.toBitVec_inj.mp
  rw [Int32.toBitVec_and, Int64.toBitVec_toInt32, Int64.toBitVec_toInt32, Int64.toBitVec_and, Int64.toBitVec_shiftRight, hc]
  rw [show ((v.toUInt64 >>> a).toInt64).toBitVec = (v.toUInt64 >>> a).toBitVec from rfl, UInt64.toBitVec_shiftRight, ha, show v.toUInt64.toBitVec = v.toBitVec from rfl]
  rw [BitVec.ushiftRight_eq', BitVec.sshiftRight_eq', hsn]
  apply BitVec.eq_of_getLsbD_eq
  intro i hi
  have hm : ∀ i < 32, 8 ≤ i → (255 : Int32).toBitVec.getLsbD i = false := by decide
  have hm2 : ∀ i < 32, 8 ≤ i → (255 : Int64).toBitVec.getLsbD i = false := by decide
  have ho : ∀ i < 8, (255 : Int32).toBitVec.getLsbD i = true := by decide
  have ho2 : ∀ i < 8, (255 : Int64).toBitVec.getLsbD i = true := by decide
  rw [BitVec.getLsbD_and, BitVec.getLsbD_signExtend, BitVec.getLsbD_signExtend, if_pos (show i < 64 by omega), if_pos (show i < 64 by omega), BitVec.getLsbD_and]
  rcases Nat.lt_or_ge i 8 with z | z
  · rw [ho i z, ho2 i z, BitVec.getLsbD_ushiftRight, BitVec.getLsbD_sshiftRight, if_pos (by omega)]
    simp [hi, show ¬ 64 ≤ i by omega]
  · rw [hm i hi z, hm2 i hi z]; simp
theorem bx8 {v : Int64} {k : Nat} (hk : k < 8) : ((v.toUInt64 >>> (((56 : Int32) - ((8 : Int32) * nI k)).toInt64.toUInt64 &&& Int64.toUInt64 63)).toInt64).toInt32 &&& 255 = ((v >>> (((56 : Int32) - ((8 : Int32) * nI k)).toInt64 &&& 63)) &&& (255 : Int64)).toInt32 := by
  rcases (by omega : k = 0 ∨ k = 1 ∨ k = 2 ∨ k = 3 ∨ k = 4 ∨ k = 5 ∨ k = 6 ∨ k = 7) with e | e | e | e | e | e | e | e
  · subst e; exact bx_s (s := 56) (by omega) (by decide) (by decide)
  · subst e; exact bx_s (s := 48) (by omega) (by decide) (by decide)
  · subst e; exact bx_s (s := 40) (by omega) (by decide) (by decide)
  · subst e; exact bx_s (s := 32) (by omega) (by decide) (by decide)
  · subst e; exact bx_s (s := 24) (by omega) (by decide) (by decide)
  · subst e; exact bx_s (s := 16) (by omega) (by decide) (by decide)
  · subst e; exact bx_s (s := 8) (by omega) (by decide) (by decide)
  · subst e; exact bx_s (s := 0) (by omega) (by decide) (by decide)
def yB (v : Int64) (k : Nat) : Int32 := vp_nar .byte ((((v.toUInt64 >>> (((56 : Int32) - ((8 : Int32) * nI k)).toInt64.toUInt64 &&& Int64.toUInt64 63)).toInt64).toInt32).toInt8.toInt32)
def xB (v : Int64) (k : Nat) : Int32 := ((v >>> (((56 : Int32) - ((8 : Int32) * nI k)).toInt64 &&& 63)) &&& (255 : Int64)).toInt32
theorem yB_x {v : Int64} {k : Nat} (hk : k < 8) : yB v k &&& 255 = xB v k := by
  unfold yB xB
  rw [nar_b, bp_b, bp_b]
  exact bx8 hk
theorem yB_f {v : Int64} {k : Nat} : fits .byte (.int (yB v k)) = true := by
  unfold yB
  rw [nar_b]
  exact fit_b
theorem c_feed {a : Int32} {v : Int64} {M : gMem} (h : pInv M) : wp_OF_feed (fun r M1 => wp_MO_feed (fun r' M2 => r = r' ∧ pInv M2) a v M1) a v M := by
  obtain ⟨n, hn, w1, w2, w3⟩ := h.2.2.1
  unfold wp_OF_feed wp_FB_append wp_MO_feed
  refine ⟨fun c => q_t c ⟨rfl, h⟩, fun c => ⟨fun c2 => q_f c (q_t c2 ⟨rfl, h⟩), fun c2 => ?_⟩⟩
  rw [ti_lt, show (1 : Int32).toInt = 1 from rfl] at c
  rw [ti_lt, show (8 : Int32).toInt = 8 from rfl] at c2
  obtain ⟨m, hm, rfl⟩ := ti_nat (x := a) (by omega)
  rw [ti_nI hm] at c c2
  rw [w1, nI_add]
  have d1 : ¬ nI m < (1 : Int32) := by rw [ti_lt, ti_nI hm, show (1 : Int32).toInt = 1 from rfl]; omega
  have d2 : ¬ (8 : Int32) < nI m := by rw [ti_lt, ti_nI hm, show (8 : Int32).toInt = 8 from rfl]; omega
  refine q_le (b := 8192) (fun c3 => ?_) (fun c3 => ?_)
  · refine pk_loop (fun k i M' => wl_FB_append_28 _ k (nI m) v (nI i) M') (fun i M' => fr sFi M M' ∧ rFb M' ∧ M' 17 1 = nI (n + i) ∧ (∀ c j, 41 ≤ c → M' c j = M c j) ∧ (∀ j, j < n → M' 18 j = M 18 j) ∧ ∀ j, j < i → M' 18 (n + j) = yB v j) m 0 M (by omega) ⟨fr.refl, h.2.2.2.2.2.1, w1, fun _ _ _ => rfl, fun _ _ => rfl, fun j hj => by omega⟩ ?_ ?_
    · rintro k M' ⟨h1, h2, h3, h4, h5, h6⟩
      unfold wl_FB_append_28
      refine q_le (fun _ => q_f d1 (q_f d2 ?_)) (fun c => by omega)
      rw [h4 41 22 (by omega), w2, nI_add]
      refine q_le (b := 8192) (fun _ => ?_) (fun c => by omega)
      refine pk_loop (fun k i M2 => wl_MO_feed_28 _ k (nI m) v (nI i) M2) (fun i M2 => fr sFi M' M2 ∧ (∀ c j, c ≤ 41 → M2 c j = M' c j) ∧ (∀ j, j < n → M2 62 j = M 62 j) ∧ ∀ j, j < i → M2 62 (n + j) = xB v j) m 0 M' (by omega) ⟨fr.refl, fun _ _ _ => rfl, fun j _ => h4 62 j (by omega), fun j hj => by omega⟩ ?_ ?_
      · rintro k2 M2 ⟨g1, g2, g3, g4⟩
        unfold wl_MO_feed_28
        refine q_le (fun _ M3 e3 => ⟨rfl, ?_⟩) (fun c => by omega)
        rw [g2 41 22 (by omega), h4 41 22 (by omega), w2, nI_add] at e3
        have f3 : fr sFi M2 M3 := by rw [e3]; exact fr_upd (by unfold sFi; omega)
        have b3 : rFb M3 := by
          intro c hc j
          have : c ≤ 40 := by simp only [List.mem_cons, List.not_mem_nil, or_false] at hc; omega
          rw [u_ne e3, g2 c j (by omega)]
          exact h2 c hc j
        refine inv_file (h1.trans (g1.trans f3)) h ⟨n + m, by omega, by rw [u_ne e3, g2 17 1 (by omega)]; exact h3, u_at e3, fun j hj => ?_⟩ b3
        rw [u_ne e3, g2 18 j (by omega), u_ne e3]
        by_cases cj : j < n
        · rw [h5 j cj, g3 j cj]; exact w3 j cj
        · have e6 := h6 (j - n) (by omega)
          have e7 := g4 (j - n) (by omega)
          rw [show n + (j - n) = j by omega] at e6 e7
          rw [e6, e7]
          exact yB_x (by omega)
      · rintro k2 i M2 hi ⟨g1, g2, g3, g4⟩ K
        unfold wl_MO_feed_28 wp_MO_byteOf
        refine q_le (fun c => by omega) (fun _ => ?_)
        rw [g2 41 22 (by omega), h4 41 22 (by omega), w2, nI_add, nI_clamp (by omega)]
        refine ⟨vp_in_nI (by omega) (by omega), fun M3 e3 => q_x ?_⟩
        rw [nI_1]
        refine K M3 ⟨g1.trans (by rw [e3]; exact fr_upd (by unfold sFi; omega)), fun c j hc => by rw [u_ne e3]; exact g2 c j hc, fun j hj => by rw [u_ne e3]; exact g3 j hj, fun j hj => ?_⟩
        by_cases cj : j = i
        · subst cj; exact u_at e3
        · rw [u_ne e3]; exact g4 j (by omega)
    · rintro k i M' hi ⟨h1, h2, h3, h4, h5, h6⟩ K
      unfold wl_FB_append_28
      refine q_le (fun c => by omega) (fun _ => ?_)
      rw [h3, nI_clamp (by omega)]
      refine ⟨vp_in_nI (by omega) (by omega), fun M2 e2 M3 e3 => q_x ?_⟩
      rw [show M2 17 1 = nI (n + i) by rw [u_ne e2]; exact h3, nI_1] at e3
      have f2 : fr sFi M' M2 := by rw [e2]; exact fr_upd (by unfold sFi; omega)
      have f3 : fr sFi M2 M3 := by rw [e3]; exact fr_upd (by unfold sFi; omega)
      have b2 : rFb M2 := by rw [e2]; exact rFb_upd h2 yB_f
      rw [nI_1]
      refine K M3 ⟨h1.trans (f2.trans f3), upB e3 b2, u_at e3, fun c j hc => by rw [u_ne e3, u_ne e2]; exact h4 c j hc, fun j hj => by rw [u_ne e3, u_ne e2]; exact h5 j hj, fun j hj => ?_⟩
      by_cases cj : j = i
      · subst cj; rw [u_ne e3]; exact u_at e2
      · rw [u_ne e3, u_ne e2]; exact h6 j (by omega)
  · refine q_f d1 (q_f d2 ?_)
    rw [w2, nI_add]
    exact q_le (b := 8192) (fun c => by omega) (fun _ => ⟨rfl, h⟩)
end
